/-! the digest, both sides -/
def mx (z : Int64) (v : Int32) : Int64 := lN 31 * z + v.toInt64
def dg (f : Nat → Int32) : Nat → Int64 → Int64
  | 0, z => z
  | i + 1, z => mx (dg f i z) (f i)
noncomputable def dD2 (t : Nat → Nat) (n : Nat) (σ τ : ST) : Int64 := mx (dg (fun i => ctA n σ τ (nI i)) 7 (lN 17)) (sc t n).1
def dD3 (σ : ST) (z : Int64) : Nat → Int64
  | 0 => z
  | r + 1 => dg (fun b => aRingN σ r (nI b)) 5 (dD3 σ z r)
noncomputable def dD4 (σ : ST) (z : Int64) : Nat → Int64
  | 0 => z
  | l + 1 => mx (mx (mx (dg (fun b => aLumpN σ l (nI b)) 7 (dD4 σ z l)) (aBestN σ l 0)) (aBestN σ l 1)) (aMayN σ l)
noncomputable def dgst (t : Nat → Nat) (n : Nat) (σ τ : ST) : Int64 := mx (mx (mx (mx (mx (mx (dD4 σ (dD3 σ (dD2 t n σ τ) (σ 2 0)) (σ 11 0)) (aWays σ)) (aStones σ)) (aSure σ)) (aEmpty σ)) (aLeft σ)) (aLeast σ)
section DIG
variable {X : AX} {d : Nat} {Q : Option Value → AH → Prop} {g : Nat → Nat → Int32} {hj : Nat → Nat → Int64} {σ τ : ST} {t : Nat → Nat} {n : Nat}
theorem l_cd1 {v4 : Value} {z : Int64} (c : CR t n σ τ g hj) : ∀ (m i : Nat), i + m = 7 → wp X (d + 34) m_C_digest 6 [.ref 0, .long (dg (fun i => ctA n σ τ (nI i)) i z), DUM, .int (nI i), v4] [] (HP g hj) Q = wp X (d + 34) m_C_digest 31 [.ref 0, .long (dg (fun i => ctA n σ τ (nI i)) 7 z), DUM, .int (nI 7), v4] [] (HP g hj) Q
  | 0, i, hi => by
    have : i = 7 := by omega
    subst this
    rw [s_C_digest_6]
    simp (disch := omega) only [↓s_C_digest_7, ↓s_C_digest_9, nI_leI, nI_ltI, nI_eq, N_z, nI_add, pk_sub, pk_mul, kL_i, kL_r, kL_d, kL_l, kL_k, kL_f, Option.toList_some, Option.toList_none, List.cons_append, List.nil_append, bI_z, N_and, N_or, N_shl, N_shr, Nat.one_mul, Nat.reduceAdd, lg_cmp_eq, L_and, L_or, bI_1, bI_0, if_true, if_false, reduceIte, N_m1x, ite_not]
    rw [if_pos (by omega)]
  | m + 1, i, hi => by
    have ih := l_cd1 (v4 := v4) (z := z) c m (i + 1) (by omega)
    rw [s_C_digest_6]
    simp (disch := omega) only [↓s_C_digest_7, ↓s_C_digest_9, ↓s_C_digest_12, ↓s_C_digest_15, ↓s_C_digest_16, ↓s_C_digest_17, ↓s_C_digest_18, ↓s_C_digest_19, ↓s_C_digest_22, ↓s_C_digest_23, ↓s_C_digest_24, ↓s_C_digest_25, ↓s_C_digest_28, nI_leI, nI_ltI, nI_eq, N_z, nI_add, pk_sub, pk_mul, kL_i, kL_r, kL_d, kL_l, kL_k, kL_f, Option.toList_some, Option.toList_none, List.cons_append, List.nil_append, bI_z, N_and, N_or, N_shl, N_shr, Nat.one_mul, Nat.reduceAdd, lg_cmp_eq, L_and, L_or, bI_1, bI_0, if_true, if_false, reduceIte, N_m1x, ite_not, p_C_countA c]
    rw [if_neg (by omega)]
    exact ih
theorem l_cd3 {r : Nat} {z : Int64} (c : CR t n σ τ g hj) (hr : r < σ 2 0) : ∀ (m b : Nat), b + m = 5 → wp X (d + 34) m_C_digest 59 [.ref 0, .long (dg (fun b => aRingN σ r (nI b)) b z), DUM, .int (nI r), .int (nI b)] [] (HP g hj) Q = wp X (d + 34) m_C_digest 86 [.ref 0, .long (dg (fun b => aRingN σ r (nI b)) 5 z), DUM, .int (nI r), .int (nI 5)] [] (HP g hj) Q
  | 0, b, hb => by
    have : b = 5 := by omega
    subst this
    rw [s_C_digest_59]
    simp (disch := omega) only [↓s_C_digest_61, ↓s_C_digest_62, nI_leI, nI_ltI, nI_eq, N_z, nI_add, pk_sub, pk_mul, kL_i, kL_r, kL_d, kL_l, kL_k, kL_f, Option.toList_some, Option.toList_none, List.cons_append, List.nil_append, bI_z, N_and, N_or, N_shl, N_shr, Nat.one_mul, Nat.reduceAdd, lg_cmp_eq, L_and, L_or, bI_1, bI_0, if_true, if_false, reduceIte, N_m1x, ite_not]
    rw [if_pos (by omega)]
  | m + 1, b, hb => by
    have w := c.2.1.1.2.1.1
    have ih := l_cd3 (z := z) c hr m (b + 1) (by omega)
    have e : aRingIs σ (nI r) (nI b) = aRingN σ r (nI b) := by
      unfold aRingIs
      rw [if_pos (inR_k hr (by omega)), nn_n (by omega)]
    rw [s_C_digest_59]
    simp (disch := omega) only [↓s_C_digest_61, ↓s_C_digest_62, ↓s_C_digest_65, ↓s_C_digest_68, ↓s_C_digest_69, ↓s_C_digest_70, ↓s_C_digest_71, ↓s_C_digest_72, ↓s_C_digest_74, ↓s_C_digest_77, ↓s_C_digest_78, ↓s_C_digest_79, ↓s_C_digest_80, ↓s_C_digest_83, nI_leI, nI_ltI, nI_eq, N_z, nI_add, pk_sub, pk_mul, kL_i, kL_r, kL_d, kL_l, kL_k, kL_f, Option.toList_some, Option.toList_none, List.cons_append, List.nil_append, bI_z, N_and, N_or, N_shl, N_shr, Nat.one_mul, Nat.reduceAdd, lg_cmp_eq, L_and, L_or, bI_1, bI_0, if_true, if_false, reduceIte, N_m1x, ite_not, p_C_ringIs c.2.1, e]
    rw [if_neg (by omega)]
    exact ih
theorem l_cd2 {z : Int64} (c : CR t n σ τ g hj) : ∀ (m r : Nat) (v4 : Value), r + m = σ 2 0 → ∃ v4', wp X (d + 34) m_C_digest 45 [.ref 0, .long (dD3 σ z r), DUM, .int (nI r), v4] [] (HP g hj) Q = wp X (d + 34) m_C_digest 92 [.ref 0, .long (dD3 σ z (σ 2 0)), DUM, .int (nI (σ 2 0)), v4'] [] (HP g hj) Q
  | 0, r, v4, hr => by
    have w := c.2.1.1.2.1.1
    have e0 := c.2.1.2.1.1
    have : r = σ 2 0 := by omega
    subst this
    refine ⟨v4, ?_⟩
    rw [s_C_digest_45]
    simp (disch := omega) only [↓s_C_digest_46, ↓s_C_digest_47, ↓s_C_digest_50, ↓s_C_digest_53, nI_leI, nI_ltI, nI_eq, N_z, nI_add, pk_sub, pk_mul, kL_i, kL_r, kL_d, kL_l, kL_k, kL_f, Option.toList_some, Option.toList_none, List.cons_append, List.nil_append, bI_z, N_and, N_or, N_shl, N_shr, Nat.one_mul, Nat.reduceAdd, lg_cmp_eq, L_and, L_or, bI_1, bI_0, if_true, if_false, reduceIte, N_m1x, ite_not, e0, Nat.le_refl]
  | m + 1, r, v4, hr => by
    have w := c.2.1.1.2.1.1
    have e0 := c.2.1.2.1.1
    obtain ⟨v, ih⟩ := l_cd2 (z := z) c m (r + 1) (.int (nI 5)) (by omega)
    refine ⟨v, ?_⟩
    have l3 := l_cd3 (X := X) (d := d) (Q := Q) (z := dD3 σ z r) c (show r < σ 2 0 by omega) 5 0 rfl
    rw [s_C_digest_45]
    simp (disch := omega) only [↓s_C_digest_46, ↓s_C_digest_47, ↓s_C_digest_50, ↓s_C_digest_53, ↓s_C_digest_56, ↓s_C_digest_57, nI_leI, nI_ltI, nI_eq, N_z, nI_add, pk_sub, pk_mul, kL_i, kL_r, kL_d, kL_l, kL_k, kL_f, Option.toList_some, Option.toList_none, List.cons_append, List.nil_append, bI_z, N_and, N_or, N_shl, N_shr, Nat.one_mul, Nat.reduceAdd, lg_cmp_eq, L_and, L_or, bI_1, bI_0, if_true, if_false, reduceIte, N_m1x, ite_not, e0]
    rw [if_neg (by omega)]
    refine l3.trans ?_
    simp (disch := omega) only [↓s_C_digest_86, ↓s_C_digest_89, nI_leI, nI_ltI, nI_eq, N_z, nI_add, pk_sub, pk_mul, kL_i, kL_r, kL_d, kL_l, kL_k, kL_f, Option.toList_some, Option.toList_none, List.cons_append, List.nil_append, bI_z, N_and, N_or, N_shl, N_shr, Nat.one_mul, Nat.reduceAdd, lg_cmp_eq, L_and, L_or, bI_1, bI_0, if_true, if_false, reduceIte, N_m1x, ite_not]
    exact ih
theorem l_cd5 {l : Nat} {z : Int64} (c : CR t n σ τ g hj) (hl : l < σ 11 0) : ∀ (m b : Nat), b + m = 7 → wp X (d + 34) m_C_digest 108 [.ref 0, .long (dg (fun b => aLumpN σ l (nI b)) b z), DUM, .int (nI l), .int (nI b)] [] (HP g hj) Q = wp X (d + 34) m_C_digest 136 [.ref 0, .long (dg (fun b => aLumpN σ l (nI b)) 7 z), DUM, .int (nI l), .int (nI 7)] [] (HP g hj) Q
  | 0, b, hb => by
    have : b = 7 := by omega
    subst this
    rw [s_C_digest_108]
    simp (disch := omega) only [↓s_C_digest_110, ↓s_C_digest_112, nI_leI, nI_ltI, nI_eq, N_z, nI_add, pk_sub, pk_mul, kL_i, kL_r, kL_d, kL_l, kL_k, kL_f, Option.toList_some, Option.toList_none, List.cons_append, List.nil_append, bI_z, N_and, N_or, N_shl, N_shr, Nat.one_mul, Nat.reduceAdd, lg_cmp_eq, L_and, L_or, bI_1, bI_0, if_true, if_false, reduceIte, N_m1x, ite_not]
    rw [if_pos (by omega)]
  | m + 1, b, hb => by
    have w := c.2.1.1.2.2.2.1.1
    have ih := l_cd5 (z := z) c hl m (b + 1) (by omega)
    have e : aLumpIs σ (nI l) (nI b) = aLumpN σ l (nI b) := by
      unfold aLumpIs
      rw [if_pos (inR_k hl (by omega)), nn_n (by omega)]
    rw [s_C_digest_108]
    simp (disch := omega) only [↓s_C_digest_110, ↓s_C_digest_112, ↓s_C_digest_115, ↓s_C_digest_118, ↓s_C_digest_119, ↓s_C_digest_120, ↓s_C_digest_121, ↓s_C_digest_122, ↓s_C_digest_124, ↓s_C_digest_127, ↓s_C_digest_128, ↓s_C_digest_129, ↓s_C_digest_130, ↓s_C_digest_133, nI_leI, nI_ltI, nI_eq, N_z, nI_add, pk_sub, pk_mul, kL_i, kL_r, kL_d, kL_l, kL_k, kL_f, Option.toList_some, Option.toList_none, List.cons_append, List.nil_append, bI_z, N_and, N_or, N_shl, N_shr, Nat.one_mul, Nat.reduceAdd, lg_cmp_eq, L_and, L_or, bI_1, bI_0, if_true, if_false, reduceIte, N_m1x, ite_not, p_C_lumpIs c.2.1, e]
    rw [if_neg (by omega)]
    exact ih
def KCl (g : Nat → Nat → Int32) (hj : Nat → Nat → Int64) (Q : Option Value → AH → Prop) (t : Nat → Nat) (n : Nat) (σ τ : ST) (v : Int64) : Prop := ∀ g' hj', CR t n σ τ g' hj' → (∀ k, 51 ≤ k → g' k = g k) → (∀ k, 51 ≤ k → hj' k = hj k) → Q (some (.long v)) (HP g' hj')
def KMl (g : Nat → Nat → Int32) (hj : Nat → Nat → Int64) (Q : Option Value → AH → Prop) (t : Nat → Nat) (n : Nat) (σ τ : ST) (v : Int64) : Prop := ∀ g' hj', MR t n σ τ g' hj' → (∀ k, k ≤ 50 → g' k = g k) → (∀ k, k ≤ 50 → hj' k = hj k) → Q (some (.long v)) (HP g' hj')
theorem l_cd4 {z : Int64} (Kc : ∀ g' hj' v3 v4, CR t n σ τ g' hj' → (∀ k, 51 ≤ k → g' k = g k) → (∀ k, 51 ≤ k → hj' k = hj k) → wp X (d + 34) m_C_digest 183 [.ref 0, .long (dD4 σ z (σ 11 0)), DUM, v3, v4] [] (HP g' hj') Q) : ∀ (m l : Nat) (v4 : Value) (g1 : Nat → Nat → Int32) (hj1 : Nat → Nat → Int64), l + m = σ 11 0 → CR t n σ τ g1 hj1 → (∀ k, 51 ≤ k → g1 k = g k) → (∀ k, 51 ≤ k → hj1 k = hj k) → wp X (d + 34) m_C_digest 94 [.ref 0, .long (dD4 σ z l), DUM, .int (nI l), v4] [] (HP g1 hj1) Q
  | 0, l, v4, g1, hj1, hl, c, e1, e2 => by
    have w := c.2.1.1.2.2.2.1.1
    have e0 := c.2.1.2.2.2.1
    have : l = σ 11 0 := by omega
    subst this
    rw [s_C_digest_94]
    simp (disch := omega) only [↓s_C_digest_95, ↓s_C_digest_96, ↓s_C_digest_99, ↓s_C_digest_102, nI_leI, nI_ltI, nI_eq, N_z, nI_add, pk_sub, pk_mul, kL_i, kL_r, kL_d, kL_l, kL_k, kL_f, Option.toList_some, Option.toList_none, List.cons_append, List.nil_append, bI_z, N_and, N_or, N_shl, N_shr, Nat.one_mul, Nat.reduceAdd, lg_cmp_eq, L_and, L_or, bI_1, bI_0, if_true, if_false, reduceIte, N_m1x, ite_not, e0, Nat.le_refl]
    exact Kc g1 hj1 _ _ c e1 e2
  | m + 1, l, v4, g1, hj1, hl, c, e1, e2 => by
    have w := c.2.1.1.2.2.2.1.1
    have e0 := c.2.1.2.2.2.1
    have hl2 : l < σ 11 0 := by omega
    have l5 := l_cd5 (X := X) (d := d) (Q := Q) (z := dD4 σ z l) c hl2 7 0 rfl
    rw [s_C_digest_94]
    simp (disch := omega) only [↓s_C_digest_95, ↓s_C_digest_96, ↓s_C_digest_99, ↓s_C_digest_102, ↓s_C_digest_105, ↓s_C_digest_106, nI_leI, nI_ltI, nI_eq, N_z, nI_add, pk_sub, pk_mul, kL_i, kL_r, kL_d, kL_l, kL_k, kL_f, Option.toList_some, Option.toList_none, List.cons_append, List.nil_append, bI_z, N_and, N_or, N_shl, N_shr, Nat.one_mul, Nat.reduceAdd, lg_cmp_eq, L_and, L_or, bI_1, bI_0, if_true, if_false, reduceIte, N_m1x, ite_not, e0]
    rw [if_neg (by omega)]
    refine l5.mpr ?_
    simp (disch := omega) only [↓s_C_digest_136, ↓s_C_digest_139, ↓s_C_digest_140, ↓s_C_digest_141, ↓s_C_digest_142, ↓s_C_digest_143, ↓s_C_digest_144, nI_leI, nI_ltI, nI_eq, N_z, nI_add, pk_sub, pk_mul, kL_i, kL_r, kL_d, kL_l, kL_k, kL_f, Option.toList_some, Option.toList_none, List.cons_append, List.nil_append, bI_z, N_and, N_or, N_shl, N_shr, Nat.one_mul, Nat.reduceAdd, lg_cmp_eq, L_and, L_or, bI_1, bI_0, if_true, if_false, reduceIte, N_m1x, ite_not]
    refine p_C_best c ?_
    unfold bestS
    rw [if_pos ⟨inR_k hl2 (by omega), inR_k (by omega) (by omega)⟩, nn_n (by omega), nn_n (by omega)]
    intro g2 hj2 c2 f1 f2
    dsimp only at c2 ⊢
    simp (disch := omega) only [↓s_C_digest_147, ↓s_C_digest_148, ↓s_C_digest_149, ↓s_C_digest_150, ↓s_C_digest_153, ↓s_C_digest_154, ↓s_C_digest_155, ↓s_C_digest_156, ↓s_C_digest_157, ↓s_C_digest_158, nI_leI, nI_ltI, nI_eq, N_z, nI_add, pk_sub, pk_mul, kL_i, kL_r, kL_d, kL_l, kL_k, kL_f, Option.toList_some, Option.toList_none, List.cons_append, List.nil_append, bI_z, N_and, N_or, N_shl, N_shr, Nat.one_mul, Nat.reduceAdd, lg_cmp_eq, L_and, L_or, bI_1, bI_0, if_true, if_false, reduceIte, N_m1x, ite_not]
    refine p_C_best c2 ?_
    unfold bestS
    rw [if_pos ⟨inR_k hl2 (by omega), inR_k (by omega) (by omega)⟩, nn_n (by omega), nn_n (by omega)]
    intro g3 hj3 c3 f3 f4
    dsimp only at c3 ⊢
    simp (disch := omega) only [↓s_C_digest_161, ↓s_C_digest_162, ↓s_C_digest_163, ↓s_C_digest_164, ↓s_C_digest_167, ↓s_C_digest_168, ↓s_C_digest_169, ↓s_C_digest_170, ↓s_C_digest_171, nI_leI, nI_ltI, nI_eq, N_z, nI_add, pk_sub, pk_mul, kL_i, kL_r, kL_d, kL_l, kL_k, kL_f, Option.toList_some, Option.toList_none, List.cons_append, List.nil_append, bI_z, N_and, N_or, N_shl, N_shr, Nat.one_mul, Nat.reduceAdd, lg_cmp_eq, L_and, L_or, bI_1, bI_0, if_true, if_false, reduceIte, N_m1x, ite_not]
    refine p_C_may c3 ?_
    unfold mayS
    rw [if_pos (inR_k hl2 (by omega)), nn_n (by omega)]
    intro g4 hj4 c4 f5 f6
    dsimp only at c4 ⊢
    simp (disch := omega) only [↓s_C_digest_174, ↓s_C_digest_175, ↓s_C_digest_176, ↓s_C_digest_177, ↓s_C_digest_180, nI_leI, nI_ltI, nI_eq, N_z, nI_add, pk_sub, pk_mul, kL_i, kL_r, kL_d, kL_l, kL_k, kL_f, Option.toList_some, Option.toList_none, List.cons_append, List.nil_append, bI_z, N_and, N_or, N_shl, N_shr, Nat.one_mul, Nat.reduceAdd, lg_cmp_eq, L_and, L_or, bI_1, bI_0, if_true, if_false, reduceIte, N_m1x, ite_not]
    exact l_cd4 Kc m (l + 1) _ g4 hj4 (by omega) c4 (fun k hk => by rw [f5 k hk, f3 k hk, f1 k hk, e1 k hk]) (fun k hk => by rw [f6 k hk, f4 k hk, f2 k hk, e2 k hk])
theorem p_C_digest (c : CR t n σ τ g hj) (K : KCl g hj Q t n σ τ (dgst t n σ τ)) : cwp X (d + 34) m_C_digest [.ref 0] (HP g hj) Q := by
  have l1 := l_cd1 (X := X) (d := d) (Q := Q) (v4 := DUM) (z := lN 17) c 7 0 rfl
  simp only [e_C_digest, ↓s_C_digest_0, ↓s_C_digest_3, ↓s_C_digest_4, ↓s_C_digest_5, nI_leI, nI_ltI, nI_eq, N_z, nI_add, pk_sub, pk_mul, kL_i, kL_r, kL_d, kL_l, kL_k, kL_f, Option.toList_some, Option.toList_none, List.cons_append, List.nil_append, bI_z, N_and, N_or, N_shl, N_shr, Nat.one_mul, Nat.reduceAdd, lg_cmp_eq, L_and, L_or, bI_1, bI_0, if_true, if_false, reduceIte, N_m1x, ite_not]
  refine l1.mpr ?_
  simp (disch := omega) only [↓s_C_digest_31, ↓s_C_digest_34, ↓s_C_digest_35, ↓s_C_digest_36, ↓s_C_digest_37, nI_leI, nI_ltI, nI_eq, N_z, nI_add, pk_sub, pk_mul, kL_i, kL_r, kL_d, kL_l, kL_k, kL_f, Option.toList_some, Option.toList_none, List.cons_append, List.nil_append, bI_z, N_and, N_or, N_shl, N_shr, Nat.one_mul, Nat.reduceAdd, lg_cmp_eq, L_and, L_or, bI_1, bI_0, if_true, if_false, reduceIte, N_m1x, ite_not]
  refine p_C_fault c ?_
  unfold ftS
  intro g1 hj1 c1 a1 a2
  dsimp only at c1 ⊢
  obtain ⟨v, l2⟩ := l_cd2 (X := X) (d := d) (Q := Q) (z := dD2 t n σ τ) c1 (σ 2 0) 0 DUM (by omega)
  simp (disch := omega) only [↓s_C_digest_40, ↓s_C_digest_41, ↓s_C_digest_42, ↓s_C_digest_43, ↓s_C_digest_44, nI_leI, nI_ltI, nI_eq, N_z, nI_add, pk_sub, pk_mul, kL_i, kL_r, kL_d, kL_l, kL_k, kL_f, Option.toList_some, Option.toList_none, List.cons_append, List.nil_append, bI_z, N_and, N_or, N_shl, N_shr, Nat.one_mul, Nat.reduceAdd, lg_cmp_eq, L_and, L_or, bI_1, bI_0, if_true, if_false, reduceIte, N_m1x, ite_not]
  refine l2.mpr ?_
  simp (disch := omega) only [↓s_C_digest_92, ↓s_C_digest_93, nI_leI, nI_ltI, nI_eq, N_z, nI_add, pk_sub, pk_mul, kL_i, kL_r, kL_d, kL_l, kL_k, kL_f, Option.toList_some, Option.toList_none, List.cons_append, List.nil_append, bI_z, N_and, N_or, N_shl, N_shr, Nat.one_mul, Nat.reduceAdd, lg_cmp_eq, L_and, L_or, bI_1, bI_0, if_true, if_false, reduceIte, N_m1x, ite_not]
  refine l_cd4 (g := g) (hj := hj) (z := dD3 σ (dD2 t n σ τ) (σ 2 0)) (fun g2 hj2 v3 v4 c2 b1 b2 => ?_) (σ 11 0) 0 _ g1 hj1 (by omega) c1 a1 a2
  simp (disch := omega) only [↓s_C_digest_183, ↓s_C_digest_186, ↓s_C_digest_187, ↓s_C_digest_188, ↓s_C_digest_189, nI_leI, nI_ltI, nI_eq, N_z, nI_add, pk_sub, pk_mul, kL_i, kL_r, kL_d, kL_l, kL_k, kL_f, Option.toList_some, Option.toList_none, List.cons_append, List.nil_append, bI_z, N_and, N_or, N_shl, N_shr, Nat.one_mul, Nat.reduceAdd, lg_cmp_eq, L_and, L_or, bI_1, bI_0, if_true, if_false, reduceIte, N_m1x, ite_not]
  refine p_C_ways c2 (fun g3 hj3 c3 b3 b4 => ?_)
  dsimp only at c3 ⊢
  simp (disch := omega) only [↓s_C_digest_192, ↓s_C_digest_193, ↓s_C_digest_194, ↓s_C_digest_195, ↓s_C_digest_198, ↓s_C_digest_199, ↓s_C_digest_200, ↓s_C_digest_201, nI_leI, nI_ltI, nI_eq, N_z, nI_add, pk_sub, pk_mul, kL_i, kL_r, kL_d, kL_l, kL_k, kL_f, Option.toList_some, Option.toList_none, List.cons_append, List.nil_append, bI_z, N_and, N_or, N_shl, N_shr, Nat.one_mul, Nat.reduceAdd, lg_cmp_eq, L_and, L_or, bI_1, bI_0, if_true, if_false, reduceIte, N_m1x, ite_not]
  refine p_C_stones c3 (fun g4 hj4 c4 b5 b6 => ?_)
  dsimp only at c4 ⊢
  simp (disch := omega) only [↓s_C_digest_204, ↓s_C_digest_205, ↓s_C_digest_206, ↓s_C_digest_207, ↓s_C_digest_210, ↓s_C_digest_211, ↓s_C_digest_212, ↓s_C_digest_213, nI_leI, nI_ltI, nI_eq, N_z, nI_add, pk_sub, pk_mul, kL_i, kL_r, kL_d, kL_l, kL_k, kL_f, Option.toList_some, Option.toList_none, List.cons_append, List.nil_append, bI_z, N_and, N_or, N_shl, N_shr, Nat.one_mul, Nat.reduceAdd, lg_cmp_eq, L_and, L_or, bI_1, bI_0, if_true, if_false, reduceIte, N_m1x, ite_not]
  refine p_C_sure c4 (fun g5 hj5 c5 b7 b8 => ?_)
  dsimp only at c5 ⊢
  simp (disch := omega) only [↓s_C_digest_216, ↓s_C_digest_217, ↓s_C_digest_218, ↓s_C_digest_219, ↓s_C_digest_222, ↓s_C_digest_223, ↓s_C_digest_224, ↓s_C_digest_225, nI_leI, nI_ltI, nI_eq, N_z, nI_add, pk_sub, pk_mul, kL_i, kL_r, kL_d, kL_l, kL_k, kL_f, Option.toList_some, Option.toList_none, List.cons_append, List.nil_append, bI_z, N_and, N_or, N_shl, N_shr, Nat.one_mul, Nat.reduceAdd, lg_cmp_eq, L_and, L_or, bI_1, bI_0, if_true, if_false, reduceIte, N_m1x, ite_not]
  refine p_C_empty c5 (fun g6 hj6 c6 b9 b10 => ?_)
  dsimp only at c6 ⊢
  simp (disch := omega) only [↓s_C_digest_228, ↓s_C_digest_229, ↓s_C_digest_230, ↓s_C_digest_231, ↓s_C_digest_234, ↓s_C_digest_235, ↓s_C_digest_236, ↓s_C_digest_237, nI_leI, nI_ltI, nI_eq, N_z, nI_add, pk_sub, pk_mul, kL_i, kL_r, kL_d, kL_l, kL_k, kL_f, Option.toList_some, Option.toList_none, List.cons_append, List.nil_append, bI_z, N_and, N_or, N_shl, N_shr, Nat.one_mul, Nat.reduceAdd, lg_cmp_eq, L_and, L_or, bI_1, bI_0, if_true, if_false, reduceIte, N_m1x, ite_not]
  refine p_C_leftOut c6 (fun g7 hj7 c7 b11 b12 => ?_)
  dsimp only at c7 ⊢
  simp (disch := omega) only [↓s_C_digest_240, ↓s_C_digest_241, ↓s_C_digest_242, ↓s_C_digest_243, ↓s_C_digest_246, ↓s_C_digest_247, ↓s_C_digest_248, ↓s_C_digest_249, nI_leI, nI_ltI, nI_eq, N_z, nI_add, pk_sub, pk_mul, kL_i, kL_r, kL_d, kL_l, kL_k, kL_f, Option.toList_some, Option.toList_none, List.cons_append, List.nil_append, bI_z, N_and, N_or, N_shl, N_shr, Nat.one_mul, Nat.reduceAdd, lg_cmp_eq, L_and, L_or, bI_1, bI_0, if_true, if_false, reduceIte, N_m1x, ite_not]
  rw [show d + 33 = (d + 23) + 10 by omega]
  refine p_C_least c7 (fun g8 hj8 c8 b13 b14 => ?_)
  dsimp only at c8 ⊢
  simp (disch := omega) only [↓s_C_digest_252, ↓s_C_digest_253, ↓s_C_digest_254, nI_leI, nI_ltI, nI_eq, N_z, nI_add, pk_sub, pk_mul, kL_i, kL_r, kL_d, kL_l, kL_k, kL_f, Option.toList_some, Option.toList_none, List.cons_append, List.nil_append, bI_z, N_and, N_or, N_shl, N_shr, Nat.one_mul, Nat.reduceAdd, lg_cmp_eq, L_and, L_or, bI_1, bI_0, if_true, if_false, reduceIte, N_m1x, ite_not]
  exact K g8 hj8 c8 (fun k hk => by rw [b13 k hk, b11 k hk, b9 k hk, b7 k hk, b5 k hk, b3 k hk, b1 k hk]) (fun k hk => by rw [b14 k hk, b12 k hk, b10 k hk, b8 k hk, b6 k hk, b4 k hk, b2 k hk])
end DIG
