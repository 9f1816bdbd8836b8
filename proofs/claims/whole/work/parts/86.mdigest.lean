/-! the digest: the model -/
section MDIG
variable {X : AX} {d : Nat} {Q : Option Value → AH → Prop} {g : Nat → Nat → Int32} {hj : Nat → Nat → Int64} {σ τ : ST} {t : Nat → Nat} {n : Nat}
theorem l_md1 {v4 : Value} {z : Int64} (c : MR t n σ τ g hj) : ∀ (m i : Nat), i + m = 7 → wp X (d + 9) m_M_digest 6 [.ref 51, .long (dg (fun i => ctA n σ τ (nI i)) i z), DUM, .int (nI i), v4] [] (HP g hj) Q = wp X (d + 9) m_M_digest 31 [.ref 51, .long (dg (fun i => ctA n σ τ (nI i)) 7 z), DUM, .int (nI 7), v4] [] (HP g hj) Q
  | 0, i, hi => by
    have : i = 7 := by omega
    subst this
    rw [s_M_digest_6]
    simp (disch := omega) only [↓s_M_digest_7, ↓s_M_digest_9, nI_leI, nI_ltI, nI_eq, N_z, nI_add, pk_sub, pk_mul, kL_i, kL_r, kL_d, kL_l, kL_k, kL_f, Option.toList_some, Option.toList_none, List.cons_append, List.nil_append, bI_z, N_and, N_or, N_shl, N_shr, Nat.one_mul, Nat.reduceAdd, lg_cmp_eq, L_and, L_or, bI_1, bI_0, if_true, if_false, reduceIte, N_m1x, ite_not, Nat.le_refl]
  | m + 1, i, hi => by
    have ih := l_md1 (v4 := v4) (z := z) c m (i + 1) (by omega)
    rw [s_M_digest_6]
    simp (disch := omega) only [↓s_M_digest_7, ↓s_M_digest_9, ↓s_M_digest_12, ↓s_M_digest_15, ↓s_M_digest_16, ↓s_M_digest_17, ↓s_M_digest_18, ↓s_M_digest_19, ↓s_M_digest_22, ↓s_M_digest_23, ↓s_M_digest_24, ↓s_M_digest_25, ↓s_M_digest_28, nI_leI, nI_ltI, nI_eq, N_z, nI_add, pk_sub, pk_mul, kL_i, kL_r, kL_d, kL_l, kL_k, kL_f, Option.toList_some, Option.toList_none, List.cons_append, List.nil_append, bI_z, N_and, N_or, N_shl, N_shr, Nat.one_mul, Nat.reduceAdd, lg_cmp_eq, L_and, L_or, bI_1, bI_0, if_true, if_false, reduceIte, N_m1x, ite_not, p_M_countA c]
    rw [if_neg (by omega)]
    exact ih
theorem l_md3 {r : Nat} {z : Int64} (c : MR t n σ τ g hj) (hr : r < σ 2 0) : ∀ (m b : Nat), b + m = 5 → wp X (d + 9) m_M_digest 56 [.ref 51, .long (dg (fun b => aRingN σ r (nI b)) b z), DUM, .int (nI r), .int (nI b)] [] (HP g hj) Q = wp X (d + 9) m_M_digest 83 [.ref 51, .long (dg (fun b => aRingN σ r (nI b)) 5 z), DUM, .int (nI r), .int (nI 5)] [] (HP g hj) Q
  | 0, b, hb => by
    have : b = 5 := by omega
    subst this
    rw [s_M_digest_56]
    simp (disch := omega) only [↓s_M_digest_58, ↓s_M_digest_59, nI_leI, nI_ltI, nI_eq, N_z, nI_add, pk_sub, pk_mul, kL_i, kL_r, kL_d, kL_l, kL_k, kL_f, Option.toList_some, Option.toList_none, List.cons_append, List.nil_append, bI_z, N_and, N_or, N_shl, N_shr, Nat.one_mul, Nat.reduceAdd, lg_cmp_eq, L_and, L_or, bI_1, bI_0, if_true, if_false, reduceIte, N_m1x, ite_not, Nat.le_refl]
  | m + 1, b, hb => by
    have w := c.2.1.1.2.1.1
    have ih := l_md3 (z := z) c hr m (b + 1) (by omega)
    rw [s_M_digest_56]
    simp (disch := omega) only [↓s_M_digest_58, ↓s_M_digest_59, ↓s_M_digest_62, ↓s_M_digest_65, ↓s_M_digest_66, ↓s_M_digest_67, ↓s_M_digest_68, ↓s_M_digest_69, ↓s_M_digest_71, ↓s_M_digest_74, ↓s_M_digest_75, ↓s_M_digest_76, ↓s_M_digest_77, ↓s_M_digest_80, nI_leI, nI_ltI, nI_eq, N_z, nI_add, pk_sub, pk_mul, kL_i, kL_r, kL_d, kL_l, kL_k, kL_f, Option.toList_some, Option.toList_none, List.cons_append, List.nil_append, bI_z, N_and, N_or, N_shl, N_shr, Nat.one_mul, Nat.reduceAdd, lg_cmp_eq, L_and, L_or, bI_1, bI_0, if_true, if_false, reduceIte, N_m1x, ite_not, c_M_ringNow c.2.1 hr]
    rw [if_neg (by omega)]
    exact ih
theorem l_md2 {z : Int64} (c : MR t n σ τ g hj) : ∀ (m r : Nat) (v4 : Value), r + m = σ 2 0 → ∃ v4', wp X (d + 9) m_M_digest 45 [.ref 51, .long (dD3 σ z r), DUM, .int (nI r), v4] [] (HP g hj) Q = wp X (d + 9) m_M_digest 89 [.ref 51, .long (dD3 σ z (σ 2 0)), DUM, .int (nI (σ 2 0)), v4'] [] (HP g hj) Q
  | 0, r, v4, hr => by
    have w := c.2.1.1.2.1.1
    have e0 := c.2.1.2.1.1
    have : r = σ 2 0 := by omega
    subst this
    refine ⟨v4, ?_⟩
    rw [s_M_digest_45]
    simp (disch := omega) only [↓s_M_digest_46, ↓s_M_digest_47, ↓s_M_digest_50, nI_leI, nI_ltI, nI_eq, N_z, nI_add, pk_sub, pk_mul, kL_i, kL_r, kL_d, kL_l, kL_k, kL_f, Option.toList_some, Option.toList_none, List.cons_append, List.nil_append, bI_z, N_and, N_or, N_shl, N_shr, Nat.one_mul, Nat.reduceAdd, lg_cmp_eq, L_and, L_or, bI_1, bI_0, if_true, if_false, reduceIte, N_m1x, ite_not, e0, Nat.le_refl]
  | m + 1, r, v4, hr => by
    have w := c.2.1.1.2.1.1
    have e0 := c.2.1.2.1.1
    obtain ⟨v, ih⟩ := l_md2 (z := z) c m (r + 1) (.int (nI 5)) (by omega)
    refine ⟨v, ?_⟩
    have l3 := l_md3 (X := X) (d := d) (Q := Q) (z := dD3 σ z r) c (show r < σ 2 0 by omega) 5 0 rfl
    rw [s_M_digest_45]
    simp (disch := omega) only [↓s_M_digest_46, ↓s_M_digest_47, ↓s_M_digest_50, ↓s_M_digest_53, ↓s_M_digest_54, nI_leI, nI_ltI, nI_eq, N_z, nI_add, pk_sub, pk_mul, kL_i, kL_r, kL_d, kL_l, kL_k, kL_f, Option.toList_some, Option.toList_none, List.cons_append, List.nil_append, bI_z, N_and, N_or, N_shl, N_shr, Nat.one_mul, Nat.reduceAdd, lg_cmp_eq, L_and, L_or, bI_1, bI_0, if_true, if_false, reduceIte, N_m1x, ite_not, e0]
    rw [if_neg (by omega)]
    refine l3.trans ?_
    simp (disch := omega) only [↓s_M_digest_83, ↓s_M_digest_86, nI_leI, nI_ltI, nI_eq, N_z, nI_add, pk_sub, pk_mul, kL_i, kL_r, kL_d, kL_l, kL_k, kL_f, Option.toList_some, Option.toList_none, List.cons_append, List.nil_append, bI_z, N_and, N_or, N_shl, N_shr, Nat.one_mul, Nat.reduceAdd, lg_cmp_eq, L_and, L_or, bI_1, bI_0, if_true, if_false, reduceIte, N_m1x, ite_not]
    exact ih
theorem l_md5 {l : Nat} {z : Int64} (c : MR t n σ τ g hj) (hl : l < σ 11 0) : ∀ (m b : Nat), b + m = 7 → wp X (d + 9) m_M_digest 102 [.ref 51, .long (dg (fun b => aLumpN σ l (nI b)) b z), DUM, .int (nI l), .int (nI b)] [] (HP g hj) Q = wp X (d + 9) m_M_digest 130 [.ref 51, .long (dg (fun b => aLumpN σ l (nI b)) 7 z), DUM, .int (nI l), .int (nI 7)] [] (HP g hj) Q
  | 0, b, hb => by
    have : b = 7 := by omega
    subst this
    rw [s_M_digest_102]
    simp (disch := omega) only [↓s_M_digest_104, ↓s_M_digest_106, nI_leI, nI_ltI, nI_eq, N_z, nI_add, pk_sub, pk_mul, kL_i, kL_r, kL_d, kL_l, kL_k, kL_f, Option.toList_some, Option.toList_none, List.cons_append, List.nil_append, bI_z, N_and, N_or, N_shl, N_shr, Nat.one_mul, Nat.reduceAdd, lg_cmp_eq, L_and, L_or, bI_1, bI_0, if_true, if_false, reduceIte, N_m1x, ite_not, Nat.le_refl]
  | m + 1, b, hb => by
    have w := c.2.1.1.2.2.2.1.1
    have ih := l_md5 (z := z) c hl m (b + 1) (by omega)
    rw [s_M_digest_102]
    simp (disch := omega) only [↓s_M_digest_104, ↓s_M_digest_106, ↓s_M_digest_109, ↓s_M_digest_112, ↓s_M_digest_113, ↓s_M_digest_114, ↓s_M_digest_115, ↓s_M_digest_116, ↓s_M_digest_118, ↓s_M_digest_121, ↓s_M_digest_122, ↓s_M_digest_123, ↓s_M_digest_124, ↓s_M_digest_127, nI_leI, nI_ltI, nI_eq, N_z, nI_add, pk_sub, pk_mul, kL_i, kL_r, kL_d, kL_l, kL_k, kL_f, Option.toList_some, Option.toList_none, List.cons_append, List.nil_append, bI_z, N_and, N_or, N_shl, N_shr, Nat.one_mul, Nat.reduceAdd, lg_cmp_eq, L_and, L_or, bI_1, bI_0, if_true, if_false, reduceIte, N_m1x, ite_not, c_M_lumpNow c.2.1 hl]
    rw [if_neg (by omega)]
    exact ih
theorem l_md4 {z : Int64} (Kc : ∀ g' hj' v3 v4, MR t n σ τ g' hj' → (∀ k, k ≤ 50 → g' k = g k) → (∀ k, k ≤ 50 → hj' k = hj k) → wp X (d + 9) m_M_digest 177 [.ref 51, .long (dD4 σ z (σ 11 0)), DUM, v3, v4] [] (HP g' hj') Q) : ∀ (m l : Nat) (v4 : Value) (g1 : Nat → Nat → Int32) (hj1 : Nat → Nat → Int64), l + m = σ 11 0 → MR t n σ τ g1 hj1 → (∀ k, k ≤ 50 → g1 k = g k) → (∀ k, k ≤ 50 → hj1 k = hj k) → wp X (d + 9) m_M_digest 91 [.ref 51, .long (dD4 σ z l), DUM, .int (nI l), v4] [] (HP g1 hj1) Q
  | 0, l, v4, g1, hj1, hl, c, e1, e2 => by
    have w := c.2.1.1.2.2.2.1.1
    have e0 := c.2.1.2.2.2.1
    have : l = σ 11 0 := by omega
    subst this
    rw [s_M_digest_91]
    simp (disch := omega) only [↓s_M_digest_92, ↓s_M_digest_93, ↓s_M_digest_96, nI_leI, nI_ltI, nI_eq, N_z, nI_add, pk_sub, pk_mul, kL_i, kL_r, kL_d, kL_l, kL_k, kL_f, Option.toList_some, Option.toList_none, List.cons_append, List.nil_append, bI_z, N_and, N_or, N_shl, N_shr, Nat.one_mul, Nat.reduceAdd, lg_cmp_eq, L_and, L_or, bI_1, bI_0, if_true, if_false, reduceIte, N_m1x, ite_not, e0, Nat.le_refl]
    exact Kc g1 hj1 _ _ c e1 e2
  | m + 1, l, v4, g1, hj1, hl, c, e1, e2 => by
    have w := c.2.1.1.2.2.2.1.1
    have e0 := c.2.1.2.2.2.1
    have hl2 : l < σ 11 0 := by omega
    have l5 := l_md5 (X := X) (d := d) (Q := Q) (z := dD4 σ z l) c hl2 7 0 rfl
    rw [s_M_digest_91]
    simp (disch := omega) only [↓s_M_digest_92, ↓s_M_digest_93, ↓s_M_digest_96, ↓s_M_digest_99, ↓s_M_digest_100, nI_leI, nI_ltI, nI_eq, N_z, nI_add, pk_sub, pk_mul, kL_i, kL_r, kL_d, kL_l, kL_k, kL_f, Option.toList_some, Option.toList_none, List.cons_append, List.nil_append, bI_z, N_and, N_or, N_shl, N_shr, Nat.one_mul, Nat.reduceAdd, lg_cmp_eq, L_and, L_or, bI_1, bI_0, if_true, if_false, reduceIte, N_m1x, ite_not, e0]
    rw [if_neg (by omega)]
    refine l5.mpr ?_
    simp (disch := omega) only [↓s_M_digest_130, ↓s_M_digest_133, ↓s_M_digest_134, ↓s_M_digest_135, ↓s_M_digest_136, ↓s_M_digest_137, ↓s_M_digest_138, nI_leI, nI_ltI, nI_eq, N_z, nI_add, pk_sub, pk_mul, kL_i, kL_r, kL_d, kL_l, kL_k, kL_f, Option.toList_some, Option.toList_none, List.cons_append, List.nil_append, bI_z, N_and, N_or, N_shl, N_shr, Nat.one_mul, Nat.reduceAdd, lg_cmp_eq, L_and, L_or, bI_1, bI_0, if_true, if_false, reduceIte, N_m1x, ite_not]
    refine c_M_bestNow c hl2 (by omega) (fun g2 hj2 c2 f1 f2 => ?_)
    simp (disch := omega) only [↓s_M_digest_141, ↓s_M_digest_142, ↓s_M_digest_143, ↓s_M_digest_144, ↓s_M_digest_147, ↓s_M_digest_148, ↓s_M_digest_149, ↓s_M_digest_150, ↓s_M_digest_151, ↓s_M_digest_152, nI_leI, nI_ltI, nI_eq, N_z, nI_add, pk_sub, pk_mul, kL_i, kL_r, kL_d, kL_l, kL_k, kL_f, Option.toList_some, Option.toList_none, List.cons_append, List.nil_append, bI_z, N_and, N_or, N_shl, N_shr, Nat.one_mul, Nat.reduceAdd, lg_cmp_eq, L_and, L_or, bI_1, bI_0, if_true, if_false, reduceIte, N_m1x, ite_not]
    refine c_M_bestNow c2.1 hl2 (by omega) (fun g3 hj3 c3 f3 f4 => ?_)
    simp (disch := omega) only [↓s_M_digest_155, ↓s_M_digest_156, ↓s_M_digest_157, ↓s_M_digest_158, ↓s_M_digest_161, ↓s_M_digest_162, ↓s_M_digest_163, ↓s_M_digest_164, ↓s_M_digest_165, nI_leI, nI_ltI, nI_eq, N_z, nI_add, pk_sub, pk_mul, kL_i, kL_r, kL_d, kL_l, kL_k, kL_f, Option.toList_some, Option.toList_none, List.cons_append, List.nil_append, bI_z, N_and, N_or, N_shl, N_shr, Nat.one_mul, Nat.reduceAdd, lg_cmp_eq, L_and, L_or, bI_1, bI_0, if_true, if_false, reduceIte, N_m1x, ite_not]
    refine c_M_mayNow c3.1 hl2 (fun g4 hj4 c4 f5 f6 => ?_)
    simp (disch := omega) only [↓s_M_digest_168, ↓s_M_digest_169, ↓s_M_digest_170, ↓s_M_digest_171, ↓s_M_digest_174, nI_leI, nI_ltI, nI_eq, N_z, nI_add, pk_sub, pk_mul, kL_i, kL_r, kL_d, kL_l, kL_k, kL_f, Option.toList_some, Option.toList_none, List.cons_append, List.nil_append, bI_z, N_and, N_or, N_shl, N_shr, Nat.one_mul, Nat.reduceAdd, lg_cmp_eq, L_and, L_or, bI_1, bI_0, if_true, if_false, reduceIte, N_m1x, ite_not]
    exact l_md4 Kc m (l + 1) _ g4 hj4 (by omega) c4.1 (fun k hk => by rw [f5 k hk, f3 k hk, f1 k hk, e1 k hk]) (fun k hk => by rw [f6 k hk, f4 k hk, f2 k hk, e2 k hk])
theorem p_M_digest (c : MR t n σ τ g hj) (K : KMl g hj Q t n σ τ (dgst t n σ τ)) : cwp X (d + 9) m_M_digest [.ref 51] (HP g hj) Q := by
  have l1 := l_md1 (X := X) (d := d) (Q := Q) (v4 := DUM) (z := lN 17) c 7 0 rfl
  simp only [e_M_digest, ↓s_M_digest_0, ↓s_M_digest_3, ↓s_M_digest_4, ↓s_M_digest_5, nI_leI, nI_ltI, nI_eq, N_z, nI_add, pk_sub, pk_mul, kL_i, kL_r, kL_d, kL_l, kL_k, kL_f, Option.toList_some, Option.toList_none, List.cons_append, List.nil_append, bI_z, N_and, N_or, N_shl, N_shr, Nat.one_mul, Nat.reduceAdd, lg_cmp_eq, L_and, L_or, bI_1, bI_0, if_true, if_false, reduceIte, N_m1x, ite_not]
  refine l1.mpr ?_
  simp (disch := omega) only [↓s_M_digest_31, ↓s_M_digest_34, ↓s_M_digest_35, ↓s_M_digest_36, ↓s_M_digest_37, nI_leI, nI_ltI, nI_eq, N_z, nI_add, pk_sub, pk_mul, kL_i, kL_r, kL_d, kL_l, kL_k, kL_f, Option.toList_some, Option.toList_none, List.cons_append, List.nil_append, bI_z, N_and, N_or, N_shl, N_shr, Nat.one_mul, Nat.reduceAdd, lg_cmp_eq, L_and, L_or, bI_1, bI_0, if_true, if_false, reduceIte, N_m1x, ite_not]
  refine c_M_faultR c (fun g1 c1 a1 _ _ => ?_)
  obtain ⟨v, l2⟩ := l_md2 (X := X) (d := d) (Q := Q) (z := dD2 t n σ τ) c1 (σ 2 0) 0 DUM (by omega)
  simp (disch := omega) only [↓s_M_digest_40, ↓s_M_digest_41, ↓s_M_digest_42, ↓s_M_digest_43, ↓s_M_digest_44, nI_leI, nI_ltI, nI_eq, N_z, nI_add, pk_sub, pk_mul, kL_i, kL_r, kL_d, kL_l, kL_k, kL_f, Option.toList_some, Option.toList_none, List.cons_append, List.nil_append, bI_z, N_and, N_or, N_shl, N_shr, Nat.one_mul, Nat.reduceAdd, lg_cmp_eq, L_and, L_or, bI_1, bI_0, if_true, if_false, reduceIte, N_m1x, ite_not]
  refine l2.mpr ?_
  simp (disch := omega) only [↓s_M_digest_89, ↓s_M_digest_90, nI_leI, nI_ltI, nI_eq, N_z, nI_add, pk_sub, pk_mul, kL_i, kL_r, kL_d, kL_l, kL_k, kL_f, Option.toList_some, Option.toList_none, List.cons_append, List.nil_append, bI_z, N_and, N_or, N_shl, N_shr, Nat.one_mul, Nat.reduceAdd, lg_cmp_eq, L_and, L_or, bI_1, bI_0, if_true, if_false, reduceIte, N_m1x, ite_not]
  refine l_md4 (g := g) (hj := hj) (z := dD3 σ (dD2 t n σ τ) (σ 2 0)) (fun g2 hj2 v3 v4 c2 b1 b2 => ?_) (σ 11 0) 0 _ g1 hj (by omega) c1 a1 (fun _ _ => rfl)
  simp (disch := omega) only [↓s_M_digest_177, ↓s_M_digest_180, ↓s_M_digest_181, ↓s_M_digest_182, ↓s_M_digest_183, nI_leI, nI_ltI, nI_eq, N_z, nI_add, pk_sub, pk_mul, kL_i, kL_r, kL_d, kL_l, kL_k, kL_f, Option.toList_some, Option.toList_none, List.cons_append, List.nil_append, bI_z, N_and, N_or, N_shl, N_shr, Nat.one_mul, Nat.reduceAdd, lg_cmp_eq, L_and, L_or, bI_1, bI_0, if_true, if_false, reduceIte, N_m1x, ite_not]
  rw [show d + 8 = (d + 1) + 7 by omega]
  refine c_M_waysNow c2 (fun g3 hj3 c3 b3 b4 => ?_)
  simp (disch := omega) only [↓s_M_digest_186, ↓s_M_digest_187, ↓s_M_digest_188, ↓s_M_digest_189, ↓s_M_digest_192, ↓s_M_digest_193, ↓s_M_digest_194, ↓s_M_digest_195, nI_leI, nI_ltI, nI_eq, N_z, nI_add, pk_sub, pk_mul, kL_i, kL_r, kL_d, kL_l, kL_k, kL_f, Option.toList_some, Option.toList_none, List.cons_append, List.nil_append, bI_z, N_and, N_or, N_shl, N_shr, Nat.one_mul, Nat.reduceAdd, lg_cmp_eq, L_and, L_or, bI_1, bI_0, if_true, if_false, reduceIte, N_m1x, ite_not]
  rw [show d + 1 + 7 = d + 8 by omega]
  refine c_M_stonesNow c3.1 (fun g4 hj4 c4 b5 b6 => ?_)
  simp (disch := omega) only [↓s_M_digest_198, ↓s_M_digest_199, ↓s_M_digest_200, ↓s_M_digest_201, ↓s_M_digest_204, ↓s_M_digest_205, ↓s_M_digest_206, ↓s_M_digest_207, nI_leI, nI_ltI, nI_eq, N_z, nI_add, pk_sub, pk_mul, kL_i, kL_r, kL_d, kL_l, kL_k, kL_f, Option.toList_some, Option.toList_none, List.cons_append, List.nil_append, bI_z, N_and, N_or, N_shl, N_shr, Nat.one_mul, Nat.reduceAdd, lg_cmp_eq, L_and, L_or, bI_1, bI_0, if_true, if_false, reduceIte, N_m1x, ite_not]
  refine c_M_sureNow c4.1 (fun g5 hj5 c5 b7 b8 => ?_)
  simp (disch := omega) only [↓s_M_digest_210, ↓s_M_digest_211, ↓s_M_digest_212, ↓s_M_digest_213, ↓s_M_digest_216, ↓s_M_digest_217, ↓s_M_digest_218, ↓s_M_digest_219, nI_leI, nI_ltI, nI_eq, N_z, nI_add, pk_sub, pk_mul, kL_i, kL_r, kL_d, kL_l, kL_k, kL_f, Option.toList_some, Option.toList_none, List.cons_append, List.nil_append, bI_z, N_and, N_or, N_shl, N_shr, Nat.one_mul, Nat.reduceAdd, lg_cmp_eq, L_and, L_or, bI_1, bI_0, if_true, if_false, reduceIte, N_m1x, ite_not]
  refine c_M_emptyNow c5.1 (fun g6 hj6 c6 b9 b10 => ?_)
  simp (disch := omega) only [↓s_M_digest_222, ↓s_M_digest_223, ↓s_M_digest_224, ↓s_M_digest_225, ↓s_M_digest_228, ↓s_M_digest_229, ↓s_M_digest_230, ↓s_M_digest_231, nI_leI, nI_ltI, nI_eq, N_z, nI_add, pk_sub, pk_mul, kL_i, kL_r, kL_d, kL_l, kL_k, kL_f, Option.toList_some, Option.toList_none, List.cons_append, List.nil_append, bI_z, N_and, N_or, N_shl, N_shr, Nat.one_mul, Nat.reduceAdd, lg_cmp_eq, L_and, L_or, bI_1, bI_0, if_true, if_false, reduceIte, N_m1x, ite_not]
  rw [show d + 8 = (d + 1) + 7 by omega]
  refine c_M_leftNow c6.1 (fun g7 hj7 c7 b11 b12 => ?_)
  simp (disch := omega) only [↓s_M_digest_234, ↓s_M_digest_235, ↓s_M_digest_236, ↓s_M_digest_237, ↓s_M_digest_240, ↓s_M_digest_241, ↓s_M_digest_242, ↓s_M_digest_243, nI_leI, nI_ltI, nI_eq, N_z, nI_add, pk_sub, pk_mul, kL_i, kL_r, kL_d, kL_l, kL_k, kL_f, Option.toList_some, Option.toList_none, List.cons_append, List.nil_append, bI_z, N_and, N_or, N_shl, N_shr, Nat.one_mul, Nat.reduceAdd, lg_cmp_eq, L_and, L_or, bI_1, bI_0, if_true, if_false, reduceIte, N_m1x, ite_not]
  rw [show d + 1 + 7 = (d + 3) + 5 by omega]
  refine c_M_leastNow c7.1 (fun g8 c8 b13 _ => ?_)
  simp (disch := omega) only [↓s_M_digest_246, ↓s_M_digest_247, ↓s_M_digest_248, nI_leI, nI_ltI, nI_eq, N_z, nI_add, pk_sub, pk_mul, kL_i, kL_r, kL_d, kL_l, kL_k, kL_f, Option.toList_some, Option.toList_none, List.cons_append, List.nil_append, bI_z, N_and, N_or, N_shl, N_shr, Nat.one_mul, Nat.reduceAdd, lg_cmp_eq, L_and, L_or, bI_1, bI_0, if_true, if_false, reduceIte, N_m1x, ite_not]
  exact K g8 hj7 c8 (fun k hk => by rw [b13 k hk, b11 k hk, b9 k hk, b7 k hk, b5 k hk, b3 k hk, b1 k hk]) (fun k hk => by rw [b12 k hk, b10 k hk, b8 k hk, b6 k hk, b4 k hk, b2 k hk])
end MDIG
