/-! the law: each case of the switch, the loop -/
section LAW
variable {X : AX} {d : Nat} {Q : Option Value → AH → Prop} {g : Nat → Nat → Int32} {hj : Nat → Nat → Int64} {σ τ : ST} {t : Nat → Nat} {n i : Nat} {a b a1 a2 a3 a4 a5 : Int32}
theorem q_C_lumpIs (c : CR t n σ τ g hj) (K : KC g hj Q (t, n, σ, τ, aLumpIs σ a b)) : cwp X (d + 2) m_C_lumpIs [.ref 0, .int a, .int b] (HP g hj) Q := by rw [p_C_lumpIs c.2.1]; exact KC_0 c K
theorem q_M_lumpIs (c : MR t n σ τ g hj) (K : KM g hj Q (t, n, σ, τ, aLumpIs σ a b)) : cwp X (d + 2) m_M_lumpIs [.ref 51, .int a, .int b] (HP g hj) Q := by rw [p_M_lumpIs c.2.1]; exact KM_0 c K
theorem q_C_ringIs (c : CR t n σ τ g hj) (K : KC g hj Q (t, n, σ, τ, aRingIs σ a b)) : cwp X (d + 2) m_C_ringIs [.ref 0, .int a, .int b] (HP g hj) Q := by rw [p_C_ringIs c.2.1]; exact KC_0 c K
theorem q_M_ringIs (c : MR t n σ τ g hj) (K : KM g hj Q (t, n, σ, τ, aRingIs σ a b)) : cwp X (d + 2) m_M_ringIs [.ref 51, .int a, .int b] (HP g hj) Q := by rw [p_M_ringIs c.2.1]; exact KM_0 c K
theorem q_C_can (c : CR t n σ τ g hj) (K : KC g hj Q (t, n, σ, τ, aCan σ a b)) : cwp X (d + 4) m_C_can [.ref 0, .int a, .int b] (HP g hj) Q := by rw [p_C_can c.2.1]; exact KC_0 c K
theorem q_M_can (c : MR t n σ τ g hj) (K : KM g hj Q (t, n, σ, τ, aCan σ a b)) : cwp X (d + 4) m_M_can [.ref 51, .int a, .int b] (HP g hj) Q := by rw [p_M_can c.2.1]; exact KM_0 c K
theorem q_C_cells (c : CR t n σ τ g hj) (K : KC g hj Q (t, n, σ, τ, aCells σ a1 a2 a3 a4)) : cwp X (d + 4) m_C_cells [.ref 0, .int a1, .int a2, .int a3, .int a4] (HP g hj) Q := by rw [p_C_cells c.2.1]; exact KC_0 c K
theorem q_M_cells (c : MR t n σ τ g hj) (K : KM g hj Q (t, n, σ, τ, aCells σ a1 a2 a3 a4)) : cwp X (d + 4) m_M_cells [.ref 51, .int a1, .int a2, .int a3, .int a4] (HP g hj) Q := by rw [p_M_cells c.2.1]; exact KM_0 c K
theorem q_C_earlier (c : CR t n σ τ g hj) (K : KC g hj Q (t, n, σ, τ, aEarlier σ a1 a2 a3 a4 a5)) : cwp X (d + 4) m_C_earlier [.ref 0, .int a1, .int a2, .int a3, .int a4, .int a5] (HP g hj) Q := by rw [p_C_earlier c.2.1]; exact KC_0 c K
theorem q_M_earlier (c : MR t n σ τ g hj) (K : KM g hj Q (t, n, σ, τ, aEarlier σ a1 a2 a3 a4 a5)) : cwp X (d + 4) m_M_earlier [.ref 51, .int a1, .int a2, .int a3, .int a4, .int a5] (HP g hj) Q := by rw [p_M_earlier c.2.1]; exact KM_0 c K
/-- the loop goes on from the next six -/
def NXT (X : AX) (d : Nat) (Q : Option Value → AH → Prop) (i : Nat) : Prop := ∀ t n σ τ g hj, CR t n σ τ g hj → MR t n σ τ g hj → wp X (d + 40) m_L_law 18 [.float 0, .ref 0, .ref 51, .int (nI (i + 6))] [] (HP g hj) Q
theorem b_type (c : CR t n σ τ g hj) (m : MR t n σ τ g hj) (h1 : i + 6 ≤ X.1) (h2 : X.1 < 2147483648) (NX : NXT X d Q i) : wp X (d + 40) m_L_law 200 [.float 0, .ref 0, .ref 51, .int (nI i)] [] (HP g hj) Q := by
  simp (disch := omega) only [↓s_L_law_200, ↓s_L_law_201, ↓s_L_law_202, ↓s_L_law_203, ↓s_L_law_204, ↓s_L_law_205, ↓s_L_law_206, nI_leI, nI_ltI, nI_eq, N_z, nI_add, pk_sub, pk_mul, kL_i, kL_r, kL_d, kL_l, kL_k, kL_f, Option.toList_some, Option.toList_none, List.cons_append, List.nil_append, bI_z, N_and, N_or, N_shl, N_shr, Nat.one_mul, Nat.reduceAdd, lg_cmp_eq, L_and, L_or, bI_1, bI_0, if_true, if_false, reduceIte, N_m1x, ite_not]
  refine p_C_type (d := d + 38) c ?_
  intro g1 hj1 c1 e1 e2
  simp (disch := omega) only [↓s_L_law_209, ↓s_L_law_210, ↓s_L_law_211, ↓s_L_law_212, ↓s_L_law_213, ↓s_L_law_214, ↓s_L_law_215, nI_leI, nI_ltI, nI_eq, N_z, nI_add, pk_sub, pk_mul, kL_i, kL_r, kL_d, kL_l, kL_k, kL_f, Option.toList_some, Option.toList_none, List.cons_append, List.nil_append, bI_z, N_and, N_or, N_shl, N_shr, Nat.one_mul, Nat.reduceAdd, lg_cmp_eq, L_and, L_or, bI_1, bI_0, if_true, if_false, reduceIte, N_m1x, ite_not]
  refine p_M_type (d := d + 38) (MR_cg m e1 e2) ?_
  intro g2 hj2 m2 f1 f2
  simp (disch := omega) only [↓s_L_law_218, ↓s_L_law_1315, ↓s_L_law_1318, nI_leI, nI_ltI, nI_eq, N_z, nI_add, pk_sub, pk_mul, kL_i, kL_r, kL_d, kL_l, kL_k, kL_f, Option.toList_some, Option.toList_none, List.cons_append, List.nil_append, bI_z, N_and, N_or, N_shl, N_shr, Nat.one_mul, Nat.reduceAdd, lg_cmp_eq, L_and, L_or, bI_1, bI_0, if_true, if_false, reduceIte, N_m1x, ite_not, eq_self]
  exact NX _ _ _ _ _ _ (CR_cg c1 f1 f2) m2
theorem b_wipe (c : CR t n σ τ g hj) (m : MR t n σ τ g hj) (h1 : i + 6 ≤ X.1) (h2 : X.1 < 2147483648) (NX : NXT X d Q i) : wp X (d + 40) m_L_law 223 [.float 0, .ref 0, .ref 51, .int (nI i)] [] (HP g hj) Q := by
  simp (disch := omega) only [↓s_L_law_223, ↓s_L_law_224, nI_leI, nI_ltI, nI_eq, N_z, nI_add, pk_sub, pk_mul, kL_i, kL_r, kL_d, kL_l, kL_k, kL_f, Option.toList_some, Option.toList_none, List.cons_append, List.nil_append, bI_z, N_and, N_or, N_shl, N_shr, Nat.one_mul, Nat.reduceAdd, lg_cmp_eq, L_and, L_or, bI_1, bI_0, if_true, if_false, reduceIte, N_m1x, ite_not]
  refine p_C_wipe (d := d + 38) c ?_
  intro g1 hj1 c1 e1 e2
  simp (disch := omega) only [↓s_L_law_227, ↓s_L_law_228, nI_leI, nI_ltI, nI_eq, N_z, nI_add, pk_sub, pk_mul, kL_i, kL_r, kL_d, kL_l, kL_k, kL_f, Option.toList_some, Option.toList_none, List.cons_append, List.nil_append, bI_z, N_and, N_or, N_shl, N_shr, Nat.one_mul, Nat.reduceAdd, lg_cmp_eq, L_and, L_or, bI_1, bI_0, if_true, if_false, reduceIte, N_m1x, ite_not]
  refine p_M_wipe (d := d + 38) (MR_cg m e1 e2) ?_
  intro g2 hj2 m2 f1 f2
  simp (disch := omega) only [↓s_L_law_231, ↓s_L_law_1315, ↓s_L_law_1318, nI_leI, nI_ltI, nI_eq, N_z, nI_add, pk_sub, pk_mul, kL_i, kL_r, kL_d, kL_l, kL_k, kL_f, Option.toList_some, Option.toList_none, List.cons_append, List.nil_append, bI_z, N_and, N_or, N_shl, N_shr, Nat.one_mul, Nat.reduceAdd, lg_cmp_eq, L_and, L_or, bI_1, bI_0, if_true, if_false, reduceIte, N_m1x, ite_not, eq_self]
  exact NX _ _ _ _ _ _ (CR_cg c1 f1 f2) m2
theorem b_fault (c : CR t n σ τ g hj) (m : MR t n σ τ g hj) (h1 : i + 6 ≤ X.1) (h2 : X.1 < 2147483648) (NX : NXT X d Q i) : wp X (d + 40) m_L_law 236 [.float 0, .ref 0, .ref 51, .int (nI i)] [] (HP g hj) Q := by
  simp (disch := omega) only [↓s_L_law_236, ↓s_L_law_237, nI_leI, nI_ltI, nI_eq, N_z, nI_add, pk_sub, pk_mul, kL_i, kL_r, kL_d, kL_l, kL_k, kL_f, Option.toList_some, Option.toList_none, List.cons_append, List.nil_append, bI_z, N_and, N_or, N_shl, N_shr, Nat.one_mul, Nat.reduceAdd, lg_cmp_eq, L_and, L_or, bI_1, bI_0, if_true, if_false, reduceIte, N_m1x, ite_not]
  refine p_C_fault (d := d + 36) c ?_
  intro g1 hj1 c1 e1 e2
  simp (disch := omega) only [↓s_L_law_240, ↓s_L_law_241, nI_leI, nI_ltI, nI_eq, N_z, nI_add, pk_sub, pk_mul, kL_i, kL_r, kL_d, kL_l, kL_k, kL_f, Option.toList_some, Option.toList_none, List.cons_append, List.nil_append, bI_z, N_and, N_or, N_shl, N_shr, Nat.one_mul, Nat.reduceAdd, lg_cmp_eq, L_and, L_or, bI_1, bI_0, if_true, if_false, reduceIte, N_m1x, ite_not]
  refine p_M_fault (d := d + 36) (MR_cg m e1 e2) ?_
  intro g2 hj2 m2 f1 f2
  simp (disch := omega) only [↓s_L_law_244, ↓s_L_law_1315, ↓s_L_law_1318, nI_leI, nI_ltI, nI_eq, N_z, nI_add, pk_sub, pk_mul, kL_i, kL_r, kL_d, kL_l, kL_k, kL_f, Option.toList_some, Option.toList_none, List.cons_append, List.nil_append, bI_z, N_and, N_or, N_shl, N_shr, Nat.one_mul, Nat.reduceAdd, lg_cmp_eq, L_and, L_or, bI_1, bI_0, if_true, if_false, reduceIte, N_m1x, ite_not, eq_self]
  exact NX _ _ _ _ _ _ (CR_cg c1 f1 f2) m2
theorem b_ring (c : CR t n σ τ g hj) (m : MR t n σ τ g hj) (h1 : i + 6 ≤ X.1) (h2 : X.1 < 2147483648) (NX : NXT X d Q i) : wp X (d + 40) m_L_law 249 [.float 0, .ref 0, .ref 51, .int (nI i)] [] (HP g hj) Q := by
  simp (disch := omega) only [↓s_L_law_249, ↓s_L_law_250, nI_leI, nI_ltI, nI_eq, N_z, nI_add, pk_sub, pk_mul, kL_i, kL_r, kL_d, kL_l, kL_k, kL_f, Option.toList_some, Option.toList_none, List.cons_append, List.nil_append, bI_z, N_and, N_or, N_shl, N_shr, Nat.one_mul, Nat.reduceAdd, lg_cmp_eq, L_and, L_or, bI_1, bI_0, if_true, if_false, reduceIte, N_m1x, ite_not]
  refine p_C_ring (d := d + 36) c ?_
  intro g1 hj1 c1 e1 e2
  simp (disch := omega) only [↓s_L_law_253, ↓s_L_law_254, nI_leI, nI_ltI, nI_eq, N_z, nI_add, pk_sub, pk_mul, kL_i, kL_r, kL_d, kL_l, kL_k, kL_f, Option.toList_some, Option.toList_none, List.cons_append, List.nil_append, bI_z, N_and, N_or, N_shl, N_shr, Nat.one_mul, Nat.reduceAdd, lg_cmp_eq, L_and, L_or, bI_1, bI_0, if_true, if_false, reduceIte, N_m1x, ite_not]
  refine p_M_ring (d := d + 36) (MR_cg m e1 e2) ?_
  intro g2 hj2 m2 f1 f2
  simp (disch := omega) only [↓s_L_law_257, ↓s_L_law_1315, ↓s_L_law_1318, nI_leI, nI_ltI, nI_eq, N_z, nI_add, pk_sub, pk_mul, kL_i, kL_r, kL_d, kL_l, kL_k, kL_f, Option.toList_some, Option.toList_none, List.cons_append, List.nil_append, bI_z, N_and, N_or, N_shl, N_shr, Nat.one_mul, Nat.reduceAdd, lg_cmp_eq, L_and, L_or, bI_1, bI_0, if_true, if_false, reduceIte, N_m1x, ite_not, eq_self]
  exact NX _ _ _ _ _ _ (CR_cg c1 f1 f2) m2
theorem b_anew (c : CR t n σ τ g hj) (m : MR t n σ τ g hj) (h1 : i + 6 ≤ X.1) (h2 : X.1 < 2147483648) (NX : NXT X d Q i) : wp X (d + 40) m_L_law 262 [.float 0, .ref 0, .ref 51, .int (nI i)] [] (HP g hj) Q := by
  simp (disch := omega) only [↓s_L_law_262, ↓s_L_law_263, ↓s_L_law_264, ↓s_L_law_265, ↓s_L_law_266, ↓s_L_law_267, ↓s_L_law_268, ↓s_L_law_269, ↓s_L_law_270, ↓s_L_law_271, ↓s_L_law_272, ↓s_L_law_273, ↓s_L_law_274, ↓s_L_law_275, ↓s_L_law_276, ↓s_L_law_277, ↓s_L_law_278, nI_leI, nI_ltI, nI_eq, N_z, nI_add, pk_sub, pk_mul, kL_i, kL_r, kL_d, kL_l, kL_k, kL_f, Option.toList_some, Option.toList_none, List.cons_append, List.nil_append, bI_z, N_and, N_or, N_shl, N_shr, Nat.one_mul, Nat.reduceAdd, lg_cmp_eq, L_and, L_or, bI_1, bI_0, if_true, if_false, reduceIte, N_m1x, ite_not]
  refine p_C_anew (d := d + 36) c ?_
  intro g1 hj1 c1 e1 e2
  simp (disch := omega) only [↓s_L_law_281, ↓s_L_law_282, ↓s_L_law_283, ↓s_L_law_284, ↓s_L_law_285, ↓s_L_law_286, ↓s_L_law_287, ↓s_L_law_288, ↓s_L_law_289, ↓s_L_law_290, ↓s_L_law_291, ↓s_L_law_292, ↓s_L_law_293, ↓s_L_law_294, ↓s_L_law_295, ↓s_L_law_296, ↓s_L_law_297, nI_leI, nI_ltI, nI_eq, N_z, nI_add, pk_sub, pk_mul, kL_i, kL_r, kL_d, kL_l, kL_k, kL_f, Option.toList_some, Option.toList_none, List.cons_append, List.nil_append, bI_z, N_and, N_or, N_shl, N_shr, Nat.one_mul, Nat.reduceAdd, lg_cmp_eq, L_and, L_or, bI_1, bI_0, if_true, if_false, reduceIte, N_m1x, ite_not]
  refine p_M_anew (d := d + 36) (MR_cg m e1 e2) ?_
  intro g2 hj2 m2 f1 f2
  simp (disch := omega) only [↓s_L_law_300, ↓s_L_law_1315, ↓s_L_law_1318, nI_leI, nI_ltI, nI_eq, N_z, nI_add, pk_sub, pk_mul, kL_i, kL_r, kL_d, kL_l, kL_k, kL_f, Option.toList_some, Option.toList_none, List.cons_append, List.nil_append, bI_z, N_and, N_or, N_shl, N_shr, Nat.one_mul, Nat.reduceAdd, lg_cmp_eq, L_and, L_or, bI_1, bI_0, if_true, if_false, reduceIte, N_m1x, ite_not, eq_self]
  exact NX _ _ _ _ _ _ (CR_cg c1 f1 f2) m2
theorem b_held (c : CR t n σ τ g hj) (m : MR t n σ τ g hj) (h1 : i + 6 ≤ X.1) (h2 : X.1 < 2147483648) (NX : NXT X d Q i) : wp X (d + 40) m_L_law 305 [.float 0, .ref 0, .ref 51, .int (nI i)] [] (HP g hj) Q := by
  simp (disch := omega) only [↓s_L_law_305, ↓s_L_law_306, ↓s_L_law_307, ↓s_L_law_308, ↓s_L_law_309, ↓s_L_law_310, ↓s_L_law_311, ↓s_L_law_312, ↓s_L_law_313, ↓s_L_law_314, ↓s_L_law_315, ↓s_L_law_316, ↓s_L_law_317, ↓s_L_law_318, ↓s_L_law_319, ↓s_L_law_320, ↓s_L_law_321, ↓s_L_law_322, ↓s_L_law_323, ↓s_L_law_324, ↓s_L_law_325, ↓s_L_law_326, nI_leI, nI_ltI, nI_eq, N_z, nI_add, pk_sub, pk_mul, kL_i, kL_r, kL_d, kL_l, kL_k, kL_f, Option.toList_some, Option.toList_none, List.cons_append, List.nil_append, bI_z, N_and, N_or, N_shl, N_shr, Nat.one_mul, Nat.reduceAdd, lg_cmp_eq, L_and, L_or, bI_1, bI_0, if_true, if_false, reduceIte, N_m1x, ite_not]
  refine p_C_held (d := d + 36) c ?_
  intro g1 hj1 c1 e1 e2
  simp (disch := omega) only [↓s_L_law_329, ↓s_L_law_330, ↓s_L_law_331, ↓s_L_law_332, ↓s_L_law_333, ↓s_L_law_334, ↓s_L_law_335, ↓s_L_law_336, ↓s_L_law_337, ↓s_L_law_338, ↓s_L_law_339, ↓s_L_law_340, ↓s_L_law_341, ↓s_L_law_342, ↓s_L_law_343, ↓s_L_law_344, ↓s_L_law_345, ↓s_L_law_346, ↓s_L_law_347, ↓s_L_law_348, ↓s_L_law_349, ↓s_L_law_350, nI_leI, nI_ltI, nI_eq, N_z, nI_add, pk_sub, pk_mul, kL_i, kL_r, kL_d, kL_l, kL_k, kL_f, Option.toList_some, Option.toList_none, List.cons_append, List.nil_append, bI_z, N_and, N_or, N_shl, N_shr, Nat.one_mul, Nat.reduceAdd, lg_cmp_eq, L_and, L_or, bI_1, bI_0, if_true, if_false, reduceIte, N_m1x, ite_not]
  refine p_M_held (d := d + 35) (MR_cg m e1 e2) ?_
  intro g2 hj2 m2 f1 f2
  simp (disch := omega) only [↓s_L_law_353, ↓s_L_law_1315, ↓s_L_law_1318, nI_leI, nI_ltI, nI_eq, N_z, nI_add, pk_sub, pk_mul, kL_i, kL_r, kL_d, kL_l, kL_k, kL_f, Option.toList_some, Option.toList_none, List.cons_append, List.nil_append, bI_z, N_and, N_or, N_shl, N_shr, Nat.one_mul, Nat.reduceAdd, lg_cmp_eq, L_and, L_or, bI_1, bI_0, if_true, if_false, reduceIte, N_m1x, ite_not, eq_self]
  exact NX _ _ _ _ _ _ (CR_cg c1 f1 f2) m2
theorem b_read (c : CR t n σ τ g hj) (m : MR t n σ τ g hj) (h1 : i + 6 ≤ X.1) (h2 : X.1 < 2147483648) (NX : NXT X d Q i) : wp X (d + 40) m_L_law 358 [.float 0, .ref 0, .ref 51, .int (nI i)] [] (HP g hj) Q := by
  simp (disch := omega) only [↓s_L_law_358, ↓s_L_law_359, ↓s_L_law_360, ↓s_L_law_361, ↓s_L_law_362, ↓s_L_law_363, ↓s_L_law_364, nI_leI, nI_ltI, nI_eq, N_z, nI_add, pk_sub, pk_mul, kL_i, kL_r, kL_d, kL_l, kL_k, kL_f, Option.toList_some, Option.toList_none, List.cons_append, List.nil_append, bI_z, N_and, N_or, N_shl, N_shr, Nat.one_mul, Nat.reduceAdd, lg_cmp_eq, L_and, L_or, bI_1, bI_0, if_true, if_false, reduceIte, N_m1x, ite_not]
  refine p_C_read (d := d + 35) c ?_
  intro g1 hj1 c1 e1 e2
  simp (disch := omega) only [↓s_L_law_367, ↓s_L_law_368, ↓s_L_law_369, ↓s_L_law_370, ↓s_L_law_371, ↓s_L_law_372, ↓s_L_law_373, nI_leI, nI_ltI, nI_eq, N_z, nI_add, pk_sub, pk_mul, kL_i, kL_r, kL_d, kL_l, kL_k, kL_f, Option.toList_some, Option.toList_none, List.cons_append, List.nil_append, bI_z, N_and, N_or, N_shl, N_shr, Nat.one_mul, Nat.reduceAdd, lg_cmp_eq, L_and, L_or, bI_1, bI_0, if_true, if_false, reduceIte, N_m1x, ite_not]
  refine p_M_read (d := d + 35) (MR_cg m e1 e2) ?_
  intro g2 hj2 m2 f1 f2
  simp (disch := omega) only [↓s_L_law_376, ↓s_L_law_1315, ↓s_L_law_1318, nI_leI, nI_ltI, nI_eq, N_z, nI_add, pk_sub, pk_mul, kL_i, kL_r, kL_d, kL_l, kL_k, kL_f, Option.toList_some, Option.toList_none, List.cons_append, List.nil_append, bI_z, N_and, N_or, N_shl, N_shr, Nat.one_mul, Nat.reduceAdd, lg_cmp_eq, L_and, L_or, bI_1, bI_0, if_true, if_false, reduceIte, N_m1x, ite_not, eq_self]
  exact NX _ _ _ _ _ _ (CR_cg c1 f1 f2) m2
theorem b_lump (c : CR t n σ τ g hj) (m : MR t n σ τ g hj) (h1 : i + 6 ≤ X.1) (h2 : X.1 < 2147483648) (NX : NXT X d Q i) : wp X (d + 40) m_L_law 381 [.float 0, .ref 0, .ref 51, .int (nI i)] [] (HP g hj) Q := by
  simp (disch := omega) only [↓s_L_law_381, ↓s_L_law_382, ↓s_L_law_383, ↓s_L_law_384, ↓s_L_law_385, ↓s_L_law_386, ↓s_L_law_387, ↓s_L_law_388, ↓s_L_law_389, ↓s_L_law_390, ↓s_L_law_391, ↓s_L_law_392, ↓s_L_law_393, ↓s_L_law_394, ↓s_L_law_395, ↓s_L_law_396, ↓s_L_law_397, ↓s_L_law_398, ↓s_L_law_399, ↓s_L_law_400, ↓s_L_law_401, ↓s_L_law_402, nI_leI, nI_ltI, nI_eq, N_z, nI_add, pk_sub, pk_mul, kL_i, kL_r, kL_d, kL_l, kL_k, kL_f, Option.toList_some, Option.toList_none, List.cons_append, List.nil_append, bI_z, N_and, N_or, N_shl, N_shr, Nat.one_mul, Nat.reduceAdd, lg_cmp_eq, L_and, L_or, bI_1, bI_0, if_true, if_false, reduceIte, N_m1x, ite_not]
  refine p_C_lump (d := d + 36) c ?_
  intro g1 hj1 c1 e1 e2
  simp (disch := omega) only [↓s_L_law_405, ↓s_L_law_406, ↓s_L_law_407, ↓s_L_law_408, ↓s_L_law_409, ↓s_L_law_410, ↓s_L_law_411, ↓s_L_law_412, ↓s_L_law_413, ↓s_L_law_414, ↓s_L_law_415, ↓s_L_law_416, ↓s_L_law_417, ↓s_L_law_418, ↓s_L_law_419, ↓s_L_law_420, ↓s_L_law_421, ↓s_L_law_422, ↓s_L_law_423, ↓s_L_law_424, ↓s_L_law_425, ↓s_L_law_426, nI_leI, nI_ltI, nI_eq, N_z, nI_add, pk_sub, pk_mul, kL_i, kL_r, kL_d, kL_l, kL_k, kL_f, Option.toList_some, Option.toList_none, List.cons_append, List.nil_append, bI_z, N_and, N_or, N_shl, N_shr, Nat.one_mul, Nat.reduceAdd, lg_cmp_eq, L_and, L_or, bI_1, bI_0, if_true, if_false, reduceIte, N_m1x, ite_not]
  refine p_M_lump (d := d + 36) (MR_cg m e1 e2) ?_
  intro g2 hj2 m2 f1 f2
  simp (disch := omega) only [↓s_L_law_429, ↓s_L_law_1315, ↓s_L_law_1318, nI_leI, nI_ltI, nI_eq, N_z, nI_add, pk_sub, pk_mul, kL_i, kL_r, kL_d, kL_l, kL_k, kL_f, Option.toList_some, Option.toList_none, List.cons_append, List.nil_append, bI_z, N_and, N_or, N_shl, N_shr, Nat.one_mul, Nat.reduceAdd, lg_cmp_eq, L_and, L_or, bI_1, bI_0, if_true, if_false, reduceIte, N_m1x, ite_not, eq_self]
  exact NX _ _ _ _ _ _ (CR_cg c1 f1 f2) m2
theorem b_aside (c : CR t n σ τ g hj) (m : MR t n σ τ g hj) (h1 : i + 6 ≤ X.1) (h2 : X.1 < 2147483648) (NX : NXT X d Q i) : wp X (d + 40) m_L_law 434 [.float 0, .ref 0, .ref 51, .int (nI i)] [] (HP g hj) Q := by
  simp (disch := omega) only [↓s_L_law_434, ↓s_L_law_435, ↓s_L_law_436, ↓s_L_law_437, ↓s_L_law_438, ↓s_L_law_439, ↓s_L_law_440, nI_leI, nI_ltI, nI_eq, N_z, nI_add, pk_sub, pk_mul, kL_i, kL_r, kL_d, kL_l, kL_k, kL_f, Option.toList_some, Option.toList_none, List.cons_append, List.nil_append, bI_z, N_and, N_or, N_shl, N_shr, Nat.one_mul, Nat.reduceAdd, lg_cmp_eq, L_and, L_or, bI_1, bI_0, if_true, if_false, reduceIte, N_m1x, ite_not]
  refine p_C_aside (d := d + 36) c ?_
  intro g1 hj1 c1 e1 e2
  simp (disch := omega) only [↓s_L_law_443, ↓s_L_law_444, ↓s_L_law_445, ↓s_L_law_446, ↓s_L_law_447, ↓s_L_law_448, ↓s_L_law_449, nI_leI, nI_ltI, nI_eq, N_z, nI_add, pk_sub, pk_mul, kL_i, kL_r, kL_d, kL_l, kL_k, kL_f, Option.toList_some, Option.toList_none, List.cons_append, List.nil_append, bI_z, N_and, N_or, N_shl, N_shr, Nat.one_mul, Nat.reduceAdd, lg_cmp_eq, L_and, L_or, bI_1, bI_0, if_true, if_false, reduceIte, N_m1x, ite_not]
  refine p_M_aside (d := d + 36) (MR_cg m e1 e2) ?_
  intro g2 hj2 m2 f1 f2
  simp (disch := omega) only [↓s_L_law_452, ↓s_L_law_1315, ↓s_L_law_1318, nI_leI, nI_ltI, nI_eq, N_z, nI_add, pk_sub, pk_mul, kL_i, kL_r, kL_d, kL_l, kL_k, kL_f, Option.toList_some, Option.toList_none, List.cons_append, List.nil_append, bI_z, N_and, N_or, N_shl, N_shr, Nat.one_mul, Nat.reduceAdd, lg_cmp_eq, L_and, L_or, bI_1, bI_0, if_true, if_false, reduceIte, N_m1x, ite_not, eq_self]
  exact NX _ _ _ _ _ _ (CR_cg c1 f1 f2) m2
theorem b_lumpIs (c : CR t n σ τ g hj) (m : MR t n σ τ g hj) (h1 : i + 6 ≤ X.1) (h2 : X.1 < 2147483648) (NX : NXT X d Q i) : wp X (d + 40) m_L_law 457 [.float 0, .ref 0, .ref 51, .int (nI i)] [] (HP g hj) Q := by
  simp (disch := omega) only [↓s_L_law_457, ↓s_L_law_458, ↓s_L_law_459, ↓s_L_law_460, ↓s_L_law_461, ↓s_L_law_462, ↓s_L_law_463, ↓s_L_law_464, ↓s_L_law_465, ↓s_L_law_466, ↓s_L_law_467, ↓s_L_law_468, nI_leI, nI_ltI, nI_eq, N_z, nI_add, pk_sub, pk_mul, kL_i, kL_r, kL_d, kL_l, kL_k, kL_f, Option.toList_some, Option.toList_none, List.cons_append, List.nil_append, bI_z, N_and, N_or, N_shl, N_shr, Nat.one_mul, Nat.reduceAdd, lg_cmp_eq, L_and, L_or, bI_1, bI_0, if_true, if_false, reduceIte, N_m1x, ite_not]
  refine q_C_lumpIs (d := d + 37) c ?_
  intro g1 hj1 c1 e1 e2
  simp (disch := omega) only [↓s_L_law_471, ↓s_L_law_472, ↓s_L_law_473, ↓s_L_law_474, ↓s_L_law_475, ↓s_L_law_476, ↓s_L_law_477, ↓s_L_law_478, ↓s_L_law_479, ↓s_L_law_480, ↓s_L_law_481, ↓s_L_law_482, nI_leI, nI_ltI, nI_eq, N_z, nI_add, pk_sub, pk_mul, kL_i, kL_r, kL_d, kL_l, kL_k, kL_f, Option.toList_some, Option.toList_none, List.cons_append, List.nil_append, bI_z, N_and, N_or, N_shl, N_shr, Nat.one_mul, Nat.reduceAdd, lg_cmp_eq, L_and, L_or, bI_1, bI_0, if_true, if_false, reduceIte, N_m1x, ite_not]
  refine q_M_lumpIs (d := d + 37) (MR_cg m e1 e2) ?_
  intro g2 hj2 m2 f1 f2
  simp (disch := omega) only [↓s_L_law_485, ↓s_L_law_1315, ↓s_L_law_1318, nI_leI, nI_ltI, nI_eq, N_z, nI_add, pk_sub, pk_mul, kL_i, kL_r, kL_d, kL_l, kL_k, kL_f, Option.toList_some, Option.toList_none, List.cons_append, List.nil_append, bI_z, N_and, N_or, N_shl, N_shr, Nat.one_mul, Nat.reduceAdd, lg_cmp_eq, L_and, L_or, bI_1, bI_0, if_true, if_false, reduceIte, N_m1x, ite_not, eq_self]
  exact NX _ _ _ _ _ _ (CR_cg c1 f1 f2) m2
theorem b_ringIs (c : CR t n σ τ g hj) (m : MR t n σ τ g hj) (h1 : i + 6 ≤ X.1) (h2 : X.1 < 2147483648) (NX : NXT X d Q i) : wp X (d + 40) m_L_law 490 [.float 0, .ref 0, .ref 51, .int (nI i)] [] (HP g hj) Q := by
  simp (disch := omega) only [↓s_L_law_490, ↓s_L_law_491, ↓s_L_law_492, ↓s_L_law_493, ↓s_L_law_494, ↓s_L_law_495, ↓s_L_law_496, ↓s_L_law_497, ↓s_L_law_498, ↓s_L_law_499, ↓s_L_law_500, ↓s_L_law_501, nI_leI, nI_ltI, nI_eq, N_z, nI_add, pk_sub, pk_mul, kL_i, kL_r, kL_d, kL_l, kL_k, kL_f, Option.toList_some, Option.toList_none, List.cons_append, List.nil_append, bI_z, N_and, N_or, N_shl, N_shr, Nat.one_mul, Nat.reduceAdd, lg_cmp_eq, L_and, L_or, bI_1, bI_0, if_true, if_false, reduceIte, N_m1x, ite_not]
  refine q_C_ringIs (d := d + 37) c ?_
  intro g1 hj1 c1 e1 e2
  simp (disch := omega) only [↓s_L_law_504, ↓s_L_law_505, ↓s_L_law_506, ↓s_L_law_507, ↓s_L_law_508, ↓s_L_law_509, ↓s_L_law_510, ↓s_L_law_511, ↓s_L_law_512, ↓s_L_law_513, ↓s_L_law_514, ↓s_L_law_515, nI_leI, nI_ltI, nI_eq, N_z, nI_add, pk_sub, pk_mul, kL_i, kL_r, kL_d, kL_l, kL_k, kL_f, Option.toList_some, Option.toList_none, List.cons_append, List.nil_append, bI_z, N_and, N_or, N_shl, N_shr, Nat.one_mul, Nat.reduceAdd, lg_cmp_eq, L_and, L_or, bI_1, bI_0, if_true, if_false, reduceIte, N_m1x, ite_not]
  refine q_M_ringIs (d := d + 37) (MR_cg m e1 e2) ?_
  intro g2 hj2 m2 f1 f2
  simp (disch := omega) only [↓s_L_law_518, ↓s_L_law_1315, ↓s_L_law_1318, nI_leI, nI_ltI, nI_eq, N_z, nI_add, pk_sub, pk_mul, kL_i, kL_r, kL_d, kL_l, kL_k, kL_f, Option.toList_some, Option.toList_none, List.cons_append, List.nil_append, bI_z, N_and, N_or, N_shl, N_shr, Nat.one_mul, Nat.reduceAdd, lg_cmp_eq, L_and, L_or, bI_1, bI_0, if_true, if_false, reduceIte, N_m1x, ite_not, eq_self]
  exact NX _ _ _ _ _ _ (CR_cg c1 f1 f2) m2
theorem b_can (c : CR t n σ τ g hj) (m : MR t n σ τ g hj) (h1 : i + 6 ≤ X.1) (h2 : X.1 < 2147483648) (NX : NXT X d Q i) : wp X (d + 40) m_L_law 523 [.float 0, .ref 0, .ref 51, .int (nI i)] [] (HP g hj) Q := by
  simp (disch := omega) only [↓s_L_law_523, ↓s_L_law_524, ↓s_L_law_525, ↓s_L_law_526, ↓s_L_law_527, ↓s_L_law_528, ↓s_L_law_529, ↓s_L_law_530, ↓s_L_law_531, ↓s_L_law_532, ↓s_L_law_533, ↓s_L_law_534, nI_leI, nI_ltI, nI_eq, N_z, nI_add, pk_sub, pk_mul, kL_i, kL_r, kL_d, kL_l, kL_k, kL_f, Option.toList_some, Option.toList_none, List.cons_append, List.nil_append, bI_z, N_and, N_or, N_shl, N_shr, Nat.one_mul, Nat.reduceAdd, lg_cmp_eq, L_and, L_or, bI_1, bI_0, if_true, if_false, reduceIte, N_m1x, ite_not]
  refine q_C_can (d := d + 35) c ?_
  intro g1 hj1 c1 e1 e2
  simp (disch := omega) only [↓s_L_law_537, ↓s_L_law_538, ↓s_L_law_539, ↓s_L_law_540, ↓s_L_law_541, ↓s_L_law_542, ↓s_L_law_543, ↓s_L_law_544, ↓s_L_law_545, ↓s_L_law_546, ↓s_L_law_547, ↓s_L_law_548, nI_leI, nI_ltI, nI_eq, N_z, nI_add, pk_sub, pk_mul, kL_i, kL_r, kL_d, kL_l, kL_k, kL_f, Option.toList_some, Option.toList_none, List.cons_append, List.nil_append, bI_z, N_and, N_or, N_shl, N_shr, Nat.one_mul, Nat.reduceAdd, lg_cmp_eq, L_and, L_or, bI_1, bI_0, if_true, if_false, reduceIte, N_m1x, ite_not]
  refine q_M_can (d := d + 35) (MR_cg m e1 e2) ?_
  intro g2 hj2 m2 f1 f2
  simp (disch := omega) only [↓s_L_law_551, ↓s_L_law_1315, ↓s_L_law_1318, nI_leI, nI_ltI, nI_eq, N_z, nI_add, pk_sub, pk_mul, kL_i, kL_r, kL_d, kL_l, kL_k, kL_f, Option.toList_some, Option.toList_none, List.cons_append, List.nil_append, bI_z, N_and, N_or, N_shl, N_shr, Nat.one_mul, Nat.reduceAdd, lg_cmp_eq, L_and, L_or, bI_1, bI_0, if_true, if_false, reduceIte, N_m1x, ite_not, eq_self]
  exact NX _ _ _ _ _ _ (CR_cg c1 f1 f2) m2
theorem b_cells (c : CR t n σ τ g hj) (m : MR t n σ τ g hj) (h1 : i + 6 ≤ X.1) (h2 : X.1 < 2147483648) (NX : NXT X d Q i) : wp X (d + 40) m_L_law 556 [.float 0, .ref 0, .ref 51, .int (nI i)] [] (HP g hj) Q := by
  simp (disch := omega) only [↓s_L_law_556, ↓s_L_law_557, ↓s_L_law_558, ↓s_L_law_559, ↓s_L_law_560, ↓s_L_law_561, ↓s_L_law_562, ↓s_L_law_563, ↓s_L_law_564, ↓s_L_law_565, ↓s_L_law_566, ↓s_L_law_567, ↓s_L_law_568, ↓s_L_law_569, ↓s_L_law_570, ↓s_L_law_571, ↓s_L_law_572, ↓s_L_law_573, ↓s_L_law_574, ↓s_L_law_575, ↓s_L_law_576, ↓s_L_law_577, nI_leI, nI_ltI, nI_eq, N_z, nI_add, pk_sub, pk_mul, kL_i, kL_r, kL_d, kL_l, kL_k, kL_f, Option.toList_some, Option.toList_none, List.cons_append, List.nil_append, bI_z, N_and, N_or, N_shl, N_shr, Nat.one_mul, Nat.reduceAdd, lg_cmp_eq, L_and, L_or, bI_1, bI_0, if_true, if_false, reduceIte, N_m1x, ite_not]
  refine q_C_cells (d := d + 35) c ?_
  intro g1 hj1 c1 e1 e2
  simp (disch := omega) only [↓s_L_law_580, ↓s_L_law_581, ↓s_L_law_582, ↓s_L_law_583, ↓s_L_law_584, ↓s_L_law_585, ↓s_L_law_586, ↓s_L_law_587, ↓s_L_law_588, ↓s_L_law_589, ↓s_L_law_590, ↓s_L_law_591, ↓s_L_law_592, ↓s_L_law_593, ↓s_L_law_594, ↓s_L_law_595, ↓s_L_law_596, ↓s_L_law_597, ↓s_L_law_598, ↓s_L_law_599, ↓s_L_law_600, ↓s_L_law_601, nI_leI, nI_ltI, nI_eq, N_z, nI_add, pk_sub, pk_mul, kL_i, kL_r, kL_d, kL_l, kL_k, kL_f, Option.toList_some, Option.toList_none, List.cons_append, List.nil_append, bI_z, N_and, N_or, N_shl, N_shr, Nat.one_mul, Nat.reduceAdd, lg_cmp_eq, L_and, L_or, bI_1, bI_0, if_true, if_false, reduceIte, N_m1x, ite_not]
  refine q_M_cells (d := d + 35) (MR_cg m e1 e2) ?_
  intro g2 hj2 m2 f1 f2
  simp (disch := omega) only [↓s_L_law_604, ↓s_L_law_1315, ↓s_L_law_1318, nI_leI, nI_ltI, nI_eq, N_z, nI_add, pk_sub, pk_mul, kL_i, kL_r, kL_d, kL_l, kL_k, kL_f, Option.toList_some, Option.toList_none, List.cons_append, List.nil_append, bI_z, N_and, N_or, N_shl, N_shr, Nat.one_mul, Nat.reduceAdd, lg_cmp_eq, L_and, L_or, bI_1, bI_0, if_true, if_false, reduceIte, N_m1x, ite_not, eq_self]
  exact NX _ _ _ _ _ _ (CR_cg c1 f1 f2) m2
theorem b_earlier (c : CR t n σ τ g hj) (m : MR t n σ τ g hj) (h1 : i + 6 ≤ X.1) (h2 : X.1 < 2147483648) (NX : NXT X d Q i) : wp X (d + 40) m_L_law 609 [.float 0, .ref 0, .ref 51, .int (nI i)] [] (HP g hj) Q := by
  simp (disch := omega) only [↓s_L_law_609, ↓s_L_law_610, ↓s_L_law_611, ↓s_L_law_612, ↓s_L_law_613, ↓s_L_law_614, ↓s_L_law_615, ↓s_L_law_616, ↓s_L_law_617, ↓s_L_law_618, ↓s_L_law_619, ↓s_L_law_620, ↓s_L_law_621, ↓s_L_law_622, ↓s_L_law_623, ↓s_L_law_624, ↓s_L_law_625, ↓s_L_law_626, ↓s_L_law_627, ↓s_L_law_628, ↓s_L_law_629, ↓s_L_law_630, ↓s_L_law_631, ↓s_L_law_632, ↓s_L_law_633, ↓s_L_law_634, ↓s_L_law_635, nI_leI, nI_ltI, nI_eq, N_z, nI_add, pk_sub, pk_mul, kL_i, kL_r, kL_d, kL_l, kL_k, kL_f, Option.toList_some, Option.toList_none, List.cons_append, List.nil_append, bI_z, N_and, N_or, N_shl, N_shr, Nat.one_mul, Nat.reduceAdd, lg_cmp_eq, L_and, L_or, bI_1, bI_0, if_true, if_false, reduceIte, N_m1x, ite_not]
  refine q_C_earlier (d := d + 35) c ?_
  intro g1 hj1 c1 e1 e2
  simp (disch := omega) only [↓s_L_law_638, ↓s_L_law_639, ↓s_L_law_640, ↓s_L_law_641, ↓s_L_law_642, ↓s_L_law_643, ↓s_L_law_644, ↓s_L_law_645, ↓s_L_law_646, ↓s_L_law_647, ↓s_L_law_648, ↓s_L_law_649, ↓s_L_law_650, ↓s_L_law_651, ↓s_L_law_652, ↓s_L_law_653, ↓s_L_law_654, ↓s_L_law_655, ↓s_L_law_656, ↓s_L_law_657, ↓s_L_law_658, ↓s_L_law_659, ↓s_L_law_660, ↓s_L_law_661, ↓s_L_law_662, ↓s_L_law_663, ↓s_L_law_664, nI_leI, nI_ltI, nI_eq, N_z, nI_add, pk_sub, pk_mul, kL_i, kL_r, kL_d, kL_l, kL_k, kL_f, Option.toList_some, Option.toList_none, List.cons_append, List.nil_append, bI_z, N_and, N_or, N_shl, N_shr, Nat.one_mul, Nat.reduceAdd, lg_cmp_eq, L_and, L_or, bI_1, bI_0, if_true, if_false, reduceIte, N_m1x, ite_not]
  refine q_M_earlier (d := d + 35) (MR_cg m e1 e2) ?_
  intro g2 hj2 m2 f1 f2
  simp (disch := omega) only [↓s_L_law_667, ↓s_L_law_1315, ↓s_L_law_1318, nI_leI, nI_ltI, nI_eq, N_z, nI_add, pk_sub, pk_mul, kL_i, kL_r, kL_d, kL_l, kL_k, kL_f, Option.toList_some, Option.toList_none, List.cons_append, List.nil_append, bI_z, N_and, N_or, N_shl, N_shr, Nat.one_mul, Nat.reduceAdd, lg_cmp_eq, L_and, L_or, bI_1, bI_0, if_true, if_false, reduceIte, N_m1x, ite_not, eq_self]
  exact NX _ _ _ _ _ _ (CR_cg c1 f1 f2) m2
theorem b_ways (c : CR t n σ τ g hj) (m : MR t n σ τ g hj) (h1 : i + 6 ≤ X.1) (h2 : X.1 < 2147483648) (NX : NXT X d Q i) : wp X (d + 40) m_L_law 672 [.float 0, .ref 0, .ref 51, .int (nI i)] [] (HP g hj) Q := by
  simp (disch := omega) only [↓s_L_law_672, ↓s_L_law_673, nI_leI, nI_ltI, nI_eq, N_z, nI_add, pk_sub, pk_mul, kL_i, kL_r, kL_d, kL_l, kL_k, kL_f, Option.toList_some, Option.toList_none, List.cons_append, List.nil_append, bI_z, N_and, N_or, N_shl, N_shr, Nat.one_mul, Nat.reduceAdd, lg_cmp_eq, L_and, L_or, bI_1, bI_0, if_true, if_false, reduceIte, N_m1x, ite_not]
  refine p_C_ways (d := d + 6) c ?_
  intro g1 hj1 c1 e1 e2
  simp (disch := omega) only [↓s_L_law_676, ↓s_L_law_677, nI_leI, nI_ltI, nI_eq, N_z, nI_add, pk_sub, pk_mul, kL_i, kL_r, kL_d, kL_l, kL_k, kL_f, Option.toList_some, Option.toList_none, List.cons_append, List.nil_append, bI_z, N_and, N_or, N_shl, N_shr, Nat.one_mul, Nat.reduceAdd, lg_cmp_eq, L_and, L_or, bI_1, bI_0, if_true, if_false, reduceIte, N_m1x, ite_not]
  refine p_M_ways (d := d + 31) (MR_cg m e1 e2) ?_
  intro g2 hj2 m2 f1 f2
  simp (disch := omega) only [↓s_L_law_680, ↓s_L_law_1315, ↓s_L_law_1318, nI_leI, nI_ltI, nI_eq, N_z, nI_add, pk_sub, pk_mul, kL_i, kL_r, kL_d, kL_l, kL_k, kL_f, Option.toList_some, Option.toList_none, List.cons_append, List.nil_append, bI_z, N_and, N_or, N_shl, N_shr, Nat.one_mul, Nat.reduceAdd, lg_cmp_eq, L_and, L_or, bI_1, bI_0, if_true, if_false, reduceIte, N_m1x, ite_not, eq_self]
  exact NX _ _ _ _ _ _ (CR_cg c1 f1 f2) m2
theorem b_stones (c : CR t n σ τ g hj) (m : MR t n σ τ g hj) (h1 : i + 6 ≤ X.1) (h2 : X.1 < 2147483648) (NX : NXT X d Q i) : wp X (d + 40) m_L_law 685 [.float 0, .ref 0, .ref 51, .int (nI i)] [] (HP g hj) Q := by
  simp (disch := omega) only [↓s_L_law_685, ↓s_L_law_686, nI_leI, nI_ltI, nI_eq, N_z, nI_add, pk_sub, pk_mul, kL_i, kL_r, kL_d, kL_l, kL_k, kL_f, Option.toList_some, Option.toList_none, List.cons_append, List.nil_append, bI_z, N_and, N_or, N_shl, N_shr, Nat.one_mul, Nat.reduceAdd, lg_cmp_eq, L_and, L_or, bI_1, bI_0, if_true, if_false, reduceIte, N_m1x, ite_not]
  refine p_C_stones (d := d + 6) c ?_
  intro g1 hj1 c1 e1 e2
  simp (disch := omega) only [↓s_L_law_689, ↓s_L_law_690, nI_leI, nI_ltI, nI_eq, N_z, nI_add, pk_sub, pk_mul, kL_i, kL_r, kL_d, kL_l, kL_k, kL_f, Option.toList_some, Option.toList_none, List.cons_append, List.nil_append, bI_z, N_and, N_or, N_shl, N_shr, Nat.one_mul, Nat.reduceAdd, lg_cmp_eq, L_and, L_or, bI_1, bI_0, if_true, if_false, reduceIte, N_m1x, ite_not]
  refine p_M_stones (d := d + 30) (MR_cg m e1 e2) ?_
  intro g2 hj2 m2 f1 f2
  simp (disch := omega) only [↓s_L_law_693, ↓s_L_law_1315, ↓s_L_law_1318, nI_leI, nI_ltI, nI_eq, N_z, nI_add, pk_sub, pk_mul, kL_i, kL_r, kL_d, kL_l, kL_k, kL_f, Option.toList_some, Option.toList_none, List.cons_append, List.nil_append, bI_z, N_and, N_or, N_shl, N_shr, Nat.one_mul, Nat.reduceAdd, lg_cmp_eq, L_and, L_or, bI_1, bI_0, if_true, if_false, reduceIte, N_m1x, ite_not, eq_self]
  exact NX _ _ _ _ _ _ (CR_cg c1 f1 f2) m2
theorem b_best (c : CR t n σ τ g hj) (m : MR t n σ τ g hj) (h1 : i + 6 ≤ X.1) (h2 : X.1 < 2147483648) (NX : NXT X d Q i) : wp X (d + 40) m_L_law 698 [.float 0, .ref 0, .ref 51, .int (nI i)] [] (HP g hj) Q := by
  simp (disch := omega) only [↓s_L_law_698, ↓s_L_law_699, ↓s_L_law_700, ↓s_L_law_701, ↓s_L_law_702, ↓s_L_law_703, ↓s_L_law_704, ↓s_L_law_705, ↓s_L_law_706, ↓s_L_law_707, ↓s_L_law_708, ↓s_L_law_709, nI_leI, nI_ltI, nI_eq, N_z, nI_add, pk_sub, pk_mul, kL_i, kL_r, kL_d, kL_l, kL_k, kL_f, Option.toList_some, Option.toList_none, List.cons_append, List.nil_append, bI_z, N_and, N_or, N_shl, N_shr, Nat.one_mul, Nat.reduceAdd, lg_cmp_eq, L_and, L_or, bI_1, bI_0, if_true, if_false, reduceIte, N_m1x, ite_not]
  refine p_C_best (d := d + 6) c ?_
  intro g1 hj1 c1 e1 e2
  simp (disch := omega) only [↓s_L_law_712, ↓s_L_law_713, ↓s_L_law_714, ↓s_L_law_715, ↓s_L_law_716, ↓s_L_law_717, ↓s_L_law_718, ↓s_L_law_719, ↓s_L_law_720, ↓s_L_law_721, ↓s_L_law_722, ↓s_L_law_723, nI_leI, nI_ltI, nI_eq, N_z, nI_add, pk_sub, pk_mul, kL_i, kL_r, kL_d, kL_l, kL_k, kL_f, Option.toList_some, Option.toList_none, List.cons_append, List.nil_append, bI_z, N_and, N_or, N_shl, N_shr, Nat.one_mul, Nat.reduceAdd, lg_cmp_eq, L_and, L_or, bI_1, bI_0, if_true, if_false, reduceIte, N_m1x, ite_not]
  refine p_M_best (d := d + 30) (MR_cg m e1 e2) ?_
  intro g2 hj2 m2 f1 f2
  simp (disch := omega) only [↓s_L_law_726, ↓s_L_law_1315, ↓s_L_law_1318, nI_leI, nI_ltI, nI_eq, N_z, nI_add, pk_sub, pk_mul, kL_i, kL_r, kL_d, kL_l, kL_k, kL_f, Option.toList_some, Option.toList_none, List.cons_append, List.nil_append, bI_z, N_and, N_or, N_shl, N_shr, Nat.one_mul, Nat.reduceAdd, lg_cmp_eq, L_and, L_or, bI_1, bI_0, if_true, if_false, reduceIte, N_m1x, ite_not, eq_self]
  exact NX _ _ _ _ _ _ (CR_cg c1 f1 f2) m2
theorem b_may (c : CR t n σ τ g hj) (m : MR t n σ τ g hj) (h1 : i + 6 ≤ X.1) (h2 : X.1 < 2147483648) (NX : NXT X d Q i) : wp X (d + 40) m_L_law 731 [.float 0, .ref 0, .ref 51, .int (nI i)] [] (HP g hj) Q := by
  simp (disch := omega) only [↓s_L_law_731, ↓s_L_law_732, ↓s_L_law_733, ↓s_L_law_734, ↓s_L_law_735, ↓s_L_law_736, ↓s_L_law_737, nI_leI, nI_ltI, nI_eq, N_z, nI_add, pk_sub, pk_mul, kL_i, kL_r, kL_d, kL_l, kL_k, kL_f, Option.toList_some, Option.toList_none, List.cons_append, List.nil_append, bI_z, N_and, N_or, N_shl, N_shr, Nat.one_mul, Nat.reduceAdd, lg_cmp_eq, L_and, L_or, bI_1, bI_0, if_true, if_false, reduceIte, N_m1x, ite_not]
  refine p_C_may (d := d + 6) c ?_
  intro g1 hj1 c1 e1 e2
  simp (disch := omega) only [↓s_L_law_740, ↓s_L_law_741, ↓s_L_law_742, ↓s_L_law_743, ↓s_L_law_744, ↓s_L_law_745, ↓s_L_law_746, nI_leI, nI_ltI, nI_eq, N_z, nI_add, pk_sub, pk_mul, kL_i, kL_r, kL_d, kL_l, kL_k, kL_f, Option.toList_some, Option.toList_none, List.cons_append, List.nil_append, bI_z, N_and, N_or, N_shl, N_shr, Nat.one_mul, Nat.reduceAdd, lg_cmp_eq, L_and, L_or, bI_1, bI_0, if_true, if_false, reduceIte, N_m1x, ite_not]
  refine p_M_may (d := d + 30) (MR_cg m e1 e2) ?_
  intro g2 hj2 m2 f1 f2
  simp (disch := omega) only [↓s_L_law_749, ↓s_L_law_1315, ↓s_L_law_1318, nI_leI, nI_ltI, nI_eq, N_z, nI_add, pk_sub, pk_mul, kL_i, kL_r, kL_d, kL_l, kL_k, kL_f, Option.toList_some, Option.toList_none, List.cons_append, List.nil_append, bI_z, N_and, N_or, N_shl, N_shr, Nat.one_mul, Nat.reduceAdd, lg_cmp_eq, L_and, L_or, bI_1, bI_0, if_true, if_false, reduceIte, N_m1x, ite_not, eq_self]
  exact NX _ _ _ _ _ _ (CR_cg c1 f1 f2) m2
theorem b_sure (c : CR t n σ τ g hj) (m : MR t n σ τ g hj) (h1 : i + 6 ≤ X.1) (h2 : X.1 < 2147483648) (NX : NXT X d Q i) : wp X (d + 40) m_L_law 754 [.float 0, .ref 0, .ref 51, .int (nI i)] [] (HP g hj) Q := by
  simp (disch := omega) only [↓s_L_law_754, ↓s_L_law_755, nI_leI, nI_ltI, nI_eq, N_z, nI_add, pk_sub, pk_mul, kL_i, kL_r, kL_d, kL_l, kL_k, kL_f, Option.toList_some, Option.toList_none, List.cons_append, List.nil_append, bI_z, N_and, N_or, N_shl, N_shr, Nat.one_mul, Nat.reduceAdd, lg_cmp_eq, L_and, L_or, bI_1, bI_0, if_true, if_false, reduceIte, N_m1x, ite_not]
  refine p_C_sure (d := d + 6) c ?_
  intro g1 hj1 c1 e1 e2
  simp (disch := omega) only [↓s_L_law_758, ↓s_L_law_759, nI_leI, nI_ltI, nI_eq, N_z, nI_add, pk_sub, pk_mul, kL_i, kL_r, kL_d, kL_l, kL_k, kL_f, Option.toList_some, Option.toList_none, List.cons_append, List.nil_append, bI_z, N_and, N_or, N_shl, N_shr, Nat.one_mul, Nat.reduceAdd, lg_cmp_eq, L_and, L_or, bI_1, bI_0, if_true, if_false, reduceIte, N_m1x, ite_not]
  refine p_M_sure (d := d + 30) (MR_cg m e1 e2) ?_
  intro g2 hj2 m2 f1 f2
  simp (disch := omega) only [↓s_L_law_762, ↓s_L_law_1315, ↓s_L_law_1318, nI_leI, nI_ltI, nI_eq, N_z, nI_add, pk_sub, pk_mul, kL_i, kL_r, kL_d, kL_l, kL_k, kL_f, Option.toList_some, Option.toList_none, List.cons_append, List.nil_append, bI_z, N_and, N_or, N_shl, N_shr, Nat.one_mul, Nat.reduceAdd, lg_cmp_eq, L_and, L_or, bI_1, bI_0, if_true, if_false, reduceIte, N_m1x, ite_not, eq_self]
  exact NX _ _ _ _ _ _ (CR_cg c1 f1 f2) m2
theorem b_pressed (c : CR t n σ τ g hj) (m : MR t n σ τ g hj) (h1 : i + 6 ≤ X.1) (h2 : X.1 < 2147483648) (NX : NXT X d Q i) : wp X (d + 40) m_L_law 767 [.float 0, .ref 0, .ref 51, .int (nI i)] [] (HP g hj) Q := by
  simp (disch := omega) only [↓s_L_law_767, ↓s_L_law_768, ↓s_L_law_769, ↓s_L_law_770, ↓s_L_law_771, ↓s_L_law_772, ↓s_L_law_773, nI_leI, nI_ltI, nI_eq, N_z, nI_add, pk_sub, pk_mul, kL_i, kL_r, kL_d, kL_l, kL_k, kL_f, Option.toList_some, Option.toList_none, List.cons_append, List.nil_append, bI_z, N_and, N_or, N_shl, N_shr, Nat.one_mul, Nat.reduceAdd, lg_cmp_eq, L_and, L_or, bI_1, bI_0, if_true, if_false, reduceIte, N_m1x, ite_not]
  refine p_C_pressed (d := d + 6) c ?_
  intro g1 hj1 c1 e1 e2
  simp (disch := omega) only [↓s_L_law_776, ↓s_L_law_777, ↓s_L_law_778, ↓s_L_law_779, ↓s_L_law_780, ↓s_L_law_781, ↓s_L_law_782, nI_leI, nI_ltI, nI_eq, N_z, nI_add, pk_sub, pk_mul, kL_i, kL_r, kL_d, kL_l, kL_k, kL_f, Option.toList_some, Option.toList_none, List.cons_append, List.nil_append, bI_z, N_and, N_or, N_shl, N_shr, Nat.one_mul, Nat.reduceAdd, lg_cmp_eq, L_and, L_or, bI_1, bI_0, if_true, if_false, reduceIte, N_m1x, ite_not]
  refine p_M_pressed (d := d + 30) (MR_cg m e1 e2) ?_
  intro g2 hj2 m2 f1 f2
  simp (disch := omega) only [↓s_L_law_785, ↓s_L_law_1315, ↓s_L_law_1318, nI_leI, nI_ltI, nI_eq, N_z, nI_add, pk_sub, pk_mul, kL_i, kL_r, kL_d, kL_l, kL_k, kL_f, Option.toList_some, Option.toList_none, List.cons_append, List.nil_append, bI_z, N_and, N_or, N_shl, N_shr, Nat.one_mul, Nat.reduceAdd, lg_cmp_eq, L_and, L_or, bI_1, bI_0, if_true, if_false, reduceIte, N_m1x, ite_not, eq_self]
  exact NX _ _ _ _ _ _ (CR_cg c1 f1 f2) m2
theorem b_empty (c : CR t n σ τ g hj) (m : MR t n σ τ g hj) (h1 : i + 6 ≤ X.1) (h2 : X.1 < 2147483648) (NX : NXT X d Q i) : wp X (d + 40) m_L_law 790 [.float 0, .ref 0, .ref 51, .int (nI i)] [] (HP g hj) Q := by
  simp (disch := omega) only [↓s_L_law_790, ↓s_L_law_791, nI_leI, nI_ltI, nI_eq, N_z, nI_add, pk_sub, pk_mul, kL_i, kL_r, kL_d, kL_l, kL_k, kL_f, Option.toList_some, Option.toList_none, List.cons_append, List.nil_append, bI_z, N_and, N_or, N_shl, N_shr, Nat.one_mul, Nat.reduceAdd, lg_cmp_eq, L_and, L_or, bI_1, bI_0, if_true, if_false, reduceIte, N_m1x, ite_not]
  refine p_C_empty (d := d + 6) c ?_
  intro g1 hj1 c1 e1 e2
  simp (disch := omega) only [↓s_L_law_794, ↓s_L_law_795, nI_leI, nI_ltI, nI_eq, N_z, nI_add, pk_sub, pk_mul, kL_i, kL_r, kL_d, kL_l, kL_k, kL_f, Option.toList_some, Option.toList_none, List.cons_append, List.nil_append, bI_z, N_and, N_or, N_shl, N_shr, Nat.one_mul, Nat.reduceAdd, lg_cmp_eq, L_and, L_or, bI_1, bI_0, if_true, if_false, reduceIte, N_m1x, ite_not]
  refine p_M_empty (d := d + 30) (MR_cg m e1 e2) ?_
  intro g2 hj2 m2 f1 f2
  simp (disch := omega) only [↓s_L_law_798, ↓s_L_law_1315, ↓s_L_law_1318, nI_leI, nI_ltI, nI_eq, N_z, nI_add, pk_sub, pk_mul, kL_i, kL_r, kL_d, kL_l, kL_k, kL_f, Option.toList_some, Option.toList_none, List.cons_append, List.nil_append, bI_z, N_and, N_or, N_shl, N_shr, Nat.one_mul, Nat.reduceAdd, lg_cmp_eq, L_and, L_or, bI_1, bI_0, if_true, if_false, reduceIte, N_m1x, ite_not, eq_self]
  exact NX _ _ _ _ _ _ (CR_cg c1 f1 f2) m2
theorem b_leftOut (c : CR t n σ τ g hj) (m : MR t n σ τ g hj) (h1 : i + 6 ≤ X.1) (h2 : X.1 < 2147483648) (NX : NXT X d Q i) : wp X (d + 40) m_L_law 803 [.float 0, .ref 0, .ref 51, .int (nI i)] [] (HP g hj) Q := by
  simp (disch := omega) only [↓s_L_law_803, ↓s_L_law_804, nI_leI, nI_ltI, nI_eq, N_z, nI_add, pk_sub, pk_mul, kL_i, kL_r, kL_d, kL_l, kL_k, kL_f, Option.toList_some, Option.toList_none, List.cons_append, List.nil_append, bI_z, N_and, N_or, N_shl, N_shr, Nat.one_mul, Nat.reduceAdd, lg_cmp_eq, L_and, L_or, bI_1, bI_0, if_true, if_false, reduceIte, N_m1x, ite_not]
  refine p_C_leftOut (d := d + 6) c ?_
  intro g1 hj1 c1 e1 e2
  simp (disch := omega) only [↓s_L_law_807, ↓s_L_law_808, nI_leI, nI_ltI, nI_eq, N_z, nI_add, pk_sub, pk_mul, kL_i, kL_r, kL_d, kL_l, kL_k, kL_f, Option.toList_some, Option.toList_none, List.cons_append, List.nil_append, bI_z, N_and, N_or, N_shl, N_shr, Nat.one_mul, Nat.reduceAdd, lg_cmp_eq, L_and, L_or, bI_1, bI_0, if_true, if_false, reduceIte, N_m1x, ite_not]
  refine p_M_leftOut (d := d + 31) (MR_cg m e1 e2) ?_
  intro g2 hj2 m2 f1 f2
  simp (disch := omega) only [↓s_L_law_811, ↓s_L_law_1315, ↓s_L_law_1318, nI_leI, nI_ltI, nI_eq, N_z, nI_add, pk_sub, pk_mul, kL_i, kL_r, kL_d, kL_l, kL_k, kL_f, Option.toList_some, Option.toList_none, List.cons_append, List.nil_append, bI_z, N_and, N_or, N_shl, N_shr, Nat.one_mul, Nat.reduceAdd, lg_cmp_eq, L_and, L_or, bI_1, bI_0, if_true, if_false, reduceIte, N_m1x, ite_not, eq_self]
  exact NX _ _ _ _ _ _ (CR_cg c1 f1 f2) m2
theorem b_joined (c : CR t n σ τ g hj) (m : MR t n σ τ g hj) (h1 : i + 6 ≤ X.1) (h2 : X.1 < 2147483648) (NX : NXT X d Q i) : wp X (d + 40) m_L_law 816 [.float 0, .ref 0, .ref 51, .int (nI i)] [] (HP g hj) Q := by
  simp (disch := omega) only [↓s_L_law_816, ↓s_L_law_817, ↓s_L_law_818, ↓s_L_law_819, ↓s_L_law_820, ↓s_L_law_821, ↓s_L_law_822, ↓s_L_law_823, ↓s_L_law_824, ↓s_L_law_825, ↓s_L_law_826, ↓s_L_law_827, nI_leI, nI_ltI, nI_eq, N_z, nI_add, pk_sub, pk_mul, kL_i, kL_r, kL_d, kL_l, kL_k, kL_f, Option.toList_some, Option.toList_none, List.cons_append, List.nil_append, bI_z, N_and, N_or, N_shl, N_shr, Nat.one_mul, Nat.reduceAdd, lg_cmp_eq, L_and, L_or, bI_1, bI_0, if_true, if_false, reduceIte, N_m1x, ite_not]
  refine p_C_joined (d := d + 36) c ?_
  intro g1 hj1 c1 e1 e2
  simp (disch := omega) only [↓s_L_law_830, ↓s_L_law_831, ↓s_L_law_832, ↓s_L_law_833, ↓s_L_law_834, ↓s_L_law_835, ↓s_L_law_836, ↓s_L_law_837, ↓s_L_law_838, ↓s_L_law_839, ↓s_L_law_840, ↓s_L_law_841, nI_leI, nI_ltI, nI_eq, N_z, nI_add, pk_sub, pk_mul, kL_i, kL_r, kL_d, kL_l, kL_k, kL_f, Option.toList_some, Option.toList_none, List.cons_append, List.nil_append, bI_z, N_and, N_or, N_shl, N_shr, Nat.one_mul, Nat.reduceAdd, lg_cmp_eq, L_and, L_or, bI_1, bI_0, if_true, if_false, reduceIte, N_m1x, ite_not]
  refine p_M_joined (d := d + 35) (MR_cg m e1 e2) ?_
  intro g2 hj2 m2 f1 f2
  simp (disch := omega) only [↓s_L_law_844, ↓s_L_law_1315, ↓s_L_law_1318, nI_leI, nI_ltI, nI_eq, N_z, nI_add, pk_sub, pk_mul, kL_i, kL_r, kL_d, kL_l, kL_k, kL_f, Option.toList_some, Option.toList_none, List.cons_append, List.nil_append, bI_z, N_and, N_or, N_shl, N_shr, Nat.one_mul, Nat.reduceAdd, lg_cmp_eq, L_and, L_or, bI_1, bI_0, if_true, if_false, reduceIte, N_m1x, ite_not, eq_self]
  exact NX _ _ _ _ _ _ (CR_cg c1 f1 f2) m2
theorem b_least (c : CR t n σ τ g hj) (m : MR t n σ τ g hj) (h1 : i + 6 ≤ X.1) (h2 : X.1 < 2147483648) (NX : NXT X d Q i) : wp X (d + 40) m_L_law 849 [.float 0, .ref 0, .ref 51, .int (nI i)] [] (HP g hj) Q := by
  simp (disch := omega) only [↓s_L_law_849, ↓s_L_law_850, nI_leI, nI_ltI, nI_eq, N_z, nI_add, pk_sub, pk_mul, kL_i, kL_r, kL_d, kL_l, kL_k, kL_f, Option.toList_some, Option.toList_none, List.cons_append, List.nil_append, bI_z, N_and, N_or, N_shl, N_shr, Nat.one_mul, Nat.reduceAdd, lg_cmp_eq, L_and, L_or, bI_1, bI_0, if_true, if_false, reduceIte, N_m1x, ite_not]
  refine p_C_least (d := d + 29) c ?_
  intro g1 hj1 c1 e1 e2
  simp (disch := omega) only [↓s_L_law_853, ↓s_L_law_854, nI_leI, nI_ltI, nI_eq, N_z, nI_add, pk_sub, pk_mul, kL_i, kL_r, kL_d, kL_l, kL_k, kL_f, Option.toList_some, Option.toList_none, List.cons_append, List.nil_append, bI_z, N_and, N_or, N_shl, N_shr, Nat.one_mul, Nat.reduceAdd, lg_cmp_eq, L_and, L_or, bI_1, bI_0, if_true, if_false, reduceIte, N_m1x, ite_not]
  refine p_M_least (d := d + 33) (MR_cg m e1 e2) ?_
  intro g2 hj2 m2 f1 f2
  simp (disch := omega) only [↓s_L_law_857, ↓s_L_law_1315, ↓s_L_law_1318, nI_leI, nI_ltI, nI_eq, N_z, nI_add, pk_sub, pk_mul, kL_i, kL_r, kL_d, kL_l, kL_k, kL_f, Option.toList_some, Option.toList_none, List.cons_append, List.nil_append, bI_z, N_and, N_or, N_shl, N_shr, Nat.one_mul, Nat.reduceAdd, lg_cmp_eq, L_and, L_or, bI_1, bI_0, if_true, if_false, reduceIte, N_m1x, ite_not, eq_self]
  exact NX _ _ _ _ _ _ (CR_cg c1 f1 f2) m2
theorem b_ones (c : CR t n σ τ g hj) (m : MR t n σ τ g hj) (h1 : i + 6 ≤ X.1) (h2 : X.1 < 2147483648) (NX : NXT X d Q i) : wp X (d + 40) m_L_law 862 [.float 0, .ref 0, .ref 51, .int (nI i)] [] (HP g hj) Q := by
  simp (disch := omega) only [↓s_L_law_862, ↓s_L_law_863, ↓s_L_law_864, ↓s_L_law_865, ↓s_L_law_866, ↓s_L_law_867, ↓s_L_law_868, nI_leI, nI_ltI, nI_eq, N_z, nI_add, pk_sub, pk_mul, kL_i, kL_r, kL_d, kL_l, kL_k, kL_f, Option.toList_some, Option.toList_none, List.cons_append, List.nil_append, bI_z, N_and, N_or, N_shl, N_shr, Nat.one_mul, Nat.reduceAdd, lg_cmp_eq, L_and, L_or, bI_1, bI_0, if_true, if_false, reduceIte, N_m1x, ite_not]
  refine p_C_ones (d := d + 29) c ?_
  intro g1 hj1 c1 e1 e2
  simp (disch := omega) only [↓s_L_law_871, ↓s_L_law_872, ↓s_L_law_873, ↓s_L_law_874, ↓s_L_law_875, ↓s_L_law_876, ↓s_L_law_877, nI_leI, nI_ltI, nI_eq, N_z, nI_add, pk_sub, pk_mul, kL_i, kL_r, kL_d, kL_l, kL_k, kL_f, Option.toList_some, Option.toList_none, List.cons_append, List.nil_append, bI_z, N_and, N_or, N_shl, N_shr, Nat.one_mul, Nat.reduceAdd, lg_cmp_eq, L_and, L_or, bI_1, bI_0, if_true, if_false, reduceIte, N_m1x, ite_not]
  refine p_M_ones (d := d + 33) (MR_cg m e1 e2) ?_
  intro g2 hj2 m2 f1 f2
  simp (disch := omega) only [↓s_L_law_880, ↓s_L_law_1315, ↓s_L_law_1318, nI_leI, nI_ltI, nI_eq, N_z, nI_add, pk_sub, pk_mul, kL_i, kL_r, kL_d, kL_l, kL_k, kL_f, Option.toList_some, Option.toList_none, List.cons_append, List.nil_append, bI_z, N_and, N_or, N_shl, N_shr, Nat.one_mul, Nat.reduceAdd, lg_cmp_eq, L_and, L_or, bI_1, bI_0, if_true, if_false, reduceIte, N_m1x, ite_not, eq_self]
  exact NX _ _ _ _ _ _ (CR_cg c1 f1 f2) m2
theorem b_near (c : CR t n σ τ g hj) (m : MR t n σ τ g hj) (h1 : i + 6 ≤ X.1) (h2 : X.1 < 2147483648) (NX : NXT X d Q i) : wp X (d + 40) m_L_law 885 [.float 0, .ref 0, .ref 51, .int (nI i)] [] (HP g hj) Q := by
  simp (disch := omega) only [↓s_L_law_885, ↓s_L_law_886, ↓s_L_law_887, ↓s_L_law_888, ↓s_L_law_889, ↓s_L_law_890, ↓s_L_law_891, ↓s_L_law_892, ↓s_L_law_893, ↓s_L_law_894, ↓s_L_law_895, ↓s_L_law_896, nI_leI, nI_ltI, nI_eq, N_z, nI_add, pk_sub, pk_mul, kL_i, kL_r, kL_d, kL_l, kL_k, kL_f, Option.toList_some, Option.toList_none, List.cons_append, List.nil_append, bI_z, N_and, N_or, N_shl, N_shr, Nat.one_mul, Nat.reduceAdd, lg_cmp_eq, L_and, L_or, bI_1, bI_0, if_true, if_false, reduceIte, N_m1x, ite_not]
  refine p_C_near (d := d + 36) c ?_
  intro g1 hj1 c1 e1 e2
  simp (disch := omega) only [↓s_L_law_899, ↓s_L_law_900, ↓s_L_law_901, ↓s_L_law_902, ↓s_L_law_903, ↓s_L_law_904, ↓s_L_law_905, ↓s_L_law_906, ↓s_L_law_907, ↓s_L_law_908, ↓s_L_law_909, ↓s_L_law_910, nI_leI, nI_ltI, nI_eq, N_z, nI_add, pk_sub, pk_mul, kL_i, kL_r, kL_d, kL_l, kL_k, kL_f, Option.toList_some, Option.toList_none, List.cons_append, List.nil_append, bI_z, N_and, N_or, N_shl, N_shr, Nat.one_mul, Nat.reduceAdd, lg_cmp_eq, L_and, L_or, bI_1, bI_0, if_true, if_false, reduceIte, N_m1x, ite_not]
  refine p_M_near (d := d + 35) (MR_cg m e1 e2) ?_
  intro g2 hj2 m2 f1 f2
  simp (disch := omega) only [↓s_L_law_913, ↓s_L_law_1315, ↓s_L_law_1318, nI_leI, nI_ltI, nI_eq, N_z, nI_add, pk_sub, pk_mul, kL_i, kL_r, kL_d, kL_l, kL_k, kL_f, Option.toList_some, Option.toList_none, List.cons_append, List.nil_append, bI_z, N_and, N_or, N_shl, N_shr, Nat.one_mul, Nat.reduceAdd, lg_cmp_eq, L_and, L_or, bI_1, bI_0, if_true, if_false, reduceIte, N_m1x, ite_not, eq_self]
  exact NX _ _ _ _ _ _ (CR_cg c1 f1 f2) m2
theorem b_copyOf (c : CR t n σ τ g hj) (m : MR t n σ τ g hj) (h1 : i + 6 ≤ X.1) (h2 : X.1 < 2147483648) (NX : NXT X d Q i) : wp X (d + 40) m_L_law 918 [.float 0, .ref 0, .ref 51, .int (nI i)] [] (HP g hj) Q := by
  simp (disch := omega) only [↓s_L_law_918, ↓s_L_law_919, ↓s_L_law_920, ↓s_L_law_921, ↓s_L_law_922, ↓s_L_law_923, ↓s_L_law_924, ↓s_L_law_925, ↓s_L_law_926, ↓s_L_law_927, ↓s_L_law_928, ↓s_L_law_929, nI_leI, nI_ltI, nI_eq, N_z, nI_add, pk_sub, pk_mul, kL_i, kL_r, kL_d, kL_l, kL_k, kL_f, Option.toList_some, Option.toList_none, List.cons_append, List.nil_append, bI_z, N_and, N_or, N_shl, N_shr, Nat.one_mul, Nat.reduceAdd, lg_cmp_eq, L_and, L_or, bI_1, bI_0, if_true, if_false, reduceIte, N_m1x, ite_not]
  refine p_C_copyOf (d := d + 36) c ?_
  intro g1 hj1 c1 e1 e2
  simp (disch := omega) only [↓s_L_law_932, ↓s_L_law_933, ↓s_L_law_934, ↓s_L_law_935, ↓s_L_law_936, ↓s_L_law_937, ↓s_L_law_938, ↓s_L_law_939, ↓s_L_law_940, ↓s_L_law_941, ↓s_L_law_942, ↓s_L_law_943, nI_leI, nI_ltI, nI_eq, N_z, nI_add, pk_sub, pk_mul, kL_i, kL_r, kL_d, kL_l, kL_k, kL_f, Option.toList_some, Option.toList_none, List.cons_append, List.nil_append, bI_z, N_and, N_or, N_shl, N_shr, Nat.one_mul, Nat.reduceAdd, lg_cmp_eq, L_and, L_or, bI_1, bI_0, if_true, if_false, reduceIte, N_m1x, ite_not]
  refine p_M_copyOf (d := d + 35) (MR_cg m e1 e2) ?_
  intro g2 hj2 m2 f1 f2
  simp (disch := omega) only [↓s_L_law_946, ↓s_L_law_1315, ↓s_L_law_1318, nI_leI, nI_ltI, nI_eq, N_z, nI_add, pk_sub, pk_mul, kL_i, kL_r, kL_d, kL_l, kL_k, kL_f, Option.toList_some, Option.toList_none, List.cons_append, List.nil_append, bI_z, N_and, N_or, N_shl, N_shr, Nat.one_mul, Nat.reduceAdd, lg_cmp_eq, L_and, L_or, bI_1, bI_0, if_true, if_false, reduceIte, N_m1x, ite_not, eq_self]
  exact NX _ _ _ _ _ _ (CR_cg c1 f1 f2) m2
theorem b_shut (c : CR t n σ τ g hj) (m : MR t n σ τ g hj) (h1 : i + 6 ≤ X.1) (h2 : X.1 < 2147483648) (NX : NXT X d Q i) : wp X (d + 40) m_L_law 951 [.float 0, .ref 0, .ref 51, .int (nI i)] [] (HP g hj) Q := by
  simp (disch := omega) only [↓s_L_law_951, ↓s_L_law_952, ↓s_L_law_953, ↓s_L_law_954, ↓s_L_law_955, ↓s_L_law_956, ↓s_L_law_957, ↓s_L_law_958, ↓s_L_law_959, ↓s_L_law_960, ↓s_L_law_961, ↓s_L_law_962, ↓s_L_law_963, ↓s_L_law_964, ↓s_L_law_965, ↓s_L_law_966, ↓s_L_law_967, nI_leI, nI_ltI, nI_eq, N_z, nI_add, pk_sub, pk_mul, kL_i, kL_r, kL_d, kL_l, kL_k, kL_f, Option.toList_some, Option.toList_none, List.cons_append, List.nil_append, bI_z, N_and, N_or, N_shl, N_shr, Nat.one_mul, Nat.reduceAdd, lg_cmp_eq, L_and, L_or, bI_1, bI_0, if_true, if_false, reduceIte, N_m1x, ite_not]
  refine p_C_shut (d := d + 36) c ?_
  intro g1 hj1 c1 e1 e2
  simp (disch := omega) only [↓s_L_law_970, ↓s_L_law_971, ↓s_L_law_972, ↓s_L_law_973, ↓s_L_law_974, ↓s_L_law_975, ↓s_L_law_976, ↓s_L_law_977, ↓s_L_law_978, ↓s_L_law_979, ↓s_L_law_980, ↓s_L_law_981, ↓s_L_law_982, ↓s_L_law_983, ↓s_L_law_984, ↓s_L_law_985, ↓s_L_law_986, nI_leI, nI_ltI, nI_eq, N_z, nI_add, pk_sub, pk_mul, kL_i, kL_r, kL_d, kL_l, kL_k, kL_f, Option.toList_some, Option.toList_none, List.cons_append, List.nil_append, bI_z, N_and, N_or, N_shl, N_shr, Nat.one_mul, Nat.reduceAdd, lg_cmp_eq, L_and, L_or, bI_1, bI_0, if_true, if_false, reduceIte, N_m1x, ite_not]
  refine p_M_shut (d := d + 36) (MR_cg m e1 e2) ?_
  intro g2 hj2 m2 f1 f2
  simp (disch := omega) only [↓s_L_law_989, ↓s_L_law_1315, ↓s_L_law_1318, nI_leI, nI_ltI, nI_eq, N_z, nI_add, pk_sub, pk_mul, kL_i, kL_r, kL_d, kL_l, kL_k, kL_f, Option.toList_some, Option.toList_none, List.cons_append, List.nil_append, bI_z, N_and, N_or, N_shl, N_shr, Nat.one_mul, Nat.reduceAdd, lg_cmp_eq, L_and, L_or, bI_1, bI_0, if_true, if_false, reduceIte, N_m1x, ite_not, eq_self]
  exact NX _ _ _ _ _ _ (CR_cg c1 f1 f2) m2
theorem b_gap (c : CR t n σ τ g hj) (m : MR t n σ τ g hj) (h1 : i + 6 ≤ X.1) (h2 : X.1 < 2147483648) (NX : NXT X d Q i) : wp X (d + 40) m_L_law 994 [.float 0, .ref 0, .ref 51, .int (nI i)] [] (HP g hj) Q := by
  simp (disch := omega) only [↓s_L_law_994, ↓s_L_law_995, ↓s_L_law_996, ↓s_L_law_997, ↓s_L_law_998, ↓s_L_law_999, ↓s_L_law_1000, nI_leI, nI_ltI, nI_eq, N_z, nI_add, pk_sub, pk_mul, kL_i, kL_r, kL_d, kL_l, kL_k, kL_f, Option.toList_some, Option.toList_none, List.cons_append, List.nil_append, bI_z, N_and, N_or, N_shl, N_shr, Nat.one_mul, Nat.reduceAdd, lg_cmp_eq, L_and, L_or, bI_1, bI_0, if_true, if_false, reduceIte, N_m1x, ite_not]
  refine p_C_gap (d := d + 36) c ?_
  intro g1 hj1 c1 e1 e2
  simp (disch := omega) only [↓s_L_law_1003, ↓s_L_law_1004, ↓s_L_law_1005, ↓s_L_law_1006, ↓s_L_law_1007, ↓s_L_law_1008, ↓s_L_law_1009, nI_leI, nI_ltI, nI_eq, N_z, nI_add, pk_sub, pk_mul, kL_i, kL_r, kL_d, kL_l, kL_k, kL_f, Option.toList_some, Option.toList_none, List.cons_append, List.nil_append, bI_z, N_and, N_or, N_shl, N_shr, Nat.one_mul, Nat.reduceAdd, lg_cmp_eq, L_and, L_or, bI_1, bI_0, if_true, if_false, reduceIte, N_m1x, ite_not]
  refine p_M_gap (d := d + 36) (MR_cg m e1 e2) ?_
  intro g2 hj2 m2 f1 f2
  simp (disch := omega) only [↓s_L_law_1012, ↓s_L_law_1315, ↓s_L_law_1318, nI_leI, nI_ltI, nI_eq, N_z, nI_add, pk_sub, pk_mul, kL_i, kL_r, kL_d, kL_l, kL_k, kL_f, Option.toList_some, Option.toList_none, List.cons_append, List.nil_append, bI_z, N_and, N_or, N_shl, N_shr, Nat.one_mul, Nat.reduceAdd, lg_cmp_eq, L_and, L_or, bI_1, bI_0, if_true, if_false, reduceIte, N_m1x, ite_not, eq_self]
  exact NX _ _ _ _ _ _ (CR_cg c1 f1 f2) m2
theorem b_clean (c : CR t n σ τ g hj) (m : MR t n σ τ g hj) (h1 : i + 6 ≤ X.1) (h2 : X.1 < 2147483648) (NX : NXT X d Q i) : wp X (d + 40) m_L_law 1017 [.float 0, .ref 0, .ref 51, .int (nI i)] [] (HP g hj) Q := by
  simp (disch := omega) only [↓s_L_law_1017, ↓s_L_law_1018, nI_leI, nI_ltI, nI_eq, N_z, nI_add, pk_sub, pk_mul, kL_i, kL_r, kL_d, kL_l, kL_k, kL_f, Option.toList_some, Option.toList_none, List.cons_append, List.nil_append, bI_z, N_and, N_or, N_shl, N_shr, Nat.one_mul, Nat.reduceAdd, lg_cmp_eq, L_and, L_or, bI_1, bI_0, if_true, if_false, reduceIte, N_m1x, ite_not]
  refine p_C_clean (d := d + 6) c ?_
  intro g1 hj1 c1 e1 e2
  simp (disch := omega) only [↓s_L_law_1021, ↓s_L_law_1022, nI_leI, nI_ltI, nI_eq, N_z, nI_add, pk_sub, pk_mul, kL_i, kL_r, kL_d, kL_l, kL_k, kL_f, Option.toList_some, Option.toList_none, List.cons_append, List.nil_append, bI_z, N_and, N_or, N_shl, N_shr, Nat.one_mul, Nat.reduceAdd, lg_cmp_eq, L_and, L_or, bI_1, bI_0, if_true, if_false, reduceIte, N_m1x, ite_not]
  refine p_M_clean (d := d + 31) (MR_cg m e1 e2) ?_
  intro g2 hj2 m2 f1 f2
  simp (disch := omega) only [↓s_L_law_1025, ↓s_L_law_1315, ↓s_L_law_1318, nI_leI, nI_ltI, nI_eq, N_z, nI_add, pk_sub, pk_mul, kL_i, kL_r, kL_d, kL_l, kL_k, kL_f, Option.toList_some, Option.toList_none, List.cons_append, List.nil_append, bI_z, N_and, N_or, N_shl, N_shr, Nat.one_mul, Nat.reduceAdd, lg_cmp_eq, L_and, L_or, bI_1, bI_0, if_true, if_false, reduceIte, N_m1x, ite_not, eq_self]
  exact NX _ _ _ _ _ _ (CR_cg c1 f1 f2) m2
theorem b_sheet (c : CR t n σ τ g hj) (m : MR t n σ τ g hj) (h1 : i + 6 ≤ X.1) (h2 : X.1 < 2147483648) (NX : NXT X d Q i) : wp X (d + 40) m_L_law 1030 [.float 0, .ref 0, .ref 51, .int (nI i)] [] (HP g hj) Q := by
  simp (disch := omega) only [↓s_L_law_1030, ↓s_L_law_1031, ↓s_L_law_1032, ↓s_L_law_1033, ↓s_L_law_1034, ↓s_L_law_1035, ↓s_L_law_1036, ↓s_L_law_1037, ↓s_L_law_1038, ↓s_L_law_1039, ↓s_L_law_1040, ↓s_L_law_1041, ↓s_L_law_1042, ↓s_L_law_1043, ↓s_L_law_1044, ↓s_L_law_1045, ↓s_L_law_1046, nI_leI, nI_ltI, nI_eq, N_z, nI_add, pk_sub, pk_mul, kL_i, kL_r, kL_d, kL_l, kL_k, kL_f, Option.toList_some, Option.toList_none, List.cons_append, List.nil_append, bI_z, N_and, N_or, N_shl, N_shr, Nat.one_mul, Nat.reduceAdd, lg_cmp_eq, L_and, L_or, bI_1, bI_0, if_true, if_false, reduceIte, N_m1x, ite_not]
  refine p_C_sheet (d := d + 36) c ?_
  intro g1 hj1 c1 e1 e2
  simp (disch := omega) only [↓s_L_law_1049, ↓s_L_law_1050, ↓s_L_law_1051, ↓s_L_law_1052, ↓s_L_law_1053, ↓s_L_law_1054, ↓s_L_law_1055, ↓s_L_law_1056, ↓s_L_law_1057, ↓s_L_law_1058, ↓s_L_law_1059, ↓s_L_law_1060, ↓s_L_law_1061, ↓s_L_law_1062, ↓s_L_law_1063, ↓s_L_law_1064, ↓s_L_law_1065, nI_leI, nI_ltI, nI_eq, N_z, nI_add, pk_sub, pk_mul, kL_i, kL_r, kL_d, kL_l, kL_k, kL_f, Option.toList_some, Option.toList_none, List.cons_append, List.nil_append, bI_z, N_and, N_or, N_shl, N_shr, Nat.one_mul, Nat.reduceAdd, lg_cmp_eq, L_and, L_or, bI_1, bI_0, if_true, if_false, reduceIte, N_m1x, ite_not]
  refine p_M_sheet (d := d + 36) (MR_cg m e1 e2) ?_
  intro g2 hj2 m2 f1 f2
  simp (disch := omega) only [↓s_L_law_1068, ↓s_L_law_1315, ↓s_L_law_1318, nI_leI, nI_ltI, nI_eq, N_z, nI_add, pk_sub, pk_mul, kL_i, kL_r, kL_d, kL_l, kL_k, kL_f, Option.toList_some, Option.toList_none, List.cons_append, List.nil_append, bI_z, N_and, N_or, N_shl, N_shr, Nat.one_mul, Nat.reduceAdd, lg_cmp_eq, L_and, L_or, bI_1, bI_0, if_true, if_false, reduceIte, N_m1x, ite_not, eq_self]
  exact NX _ _ _ _ _ _ (CR_cg c1 f1 f2) m2
theorem b_lose (c : CR t n σ τ g hj) (m : MR t n σ τ g hj) (h1 : i + 6 ≤ X.1) (h2 : X.1 < 2147483648) (NX : NXT X d Q i) : wp X (d + 40) m_L_law 1073 [.float 0, .ref 0, .ref 51, .int (nI i)] [] (HP g hj) Q := by
  simp (disch := omega) only [↓s_L_law_1073, ↓s_L_law_1074, ↓s_L_law_1075, ↓s_L_law_1076, ↓s_L_law_1077, ↓s_L_law_1078, ↓s_L_law_1079, nI_leI, nI_ltI, nI_eq, N_z, nI_add, pk_sub, pk_mul, kL_i, kL_r, kL_d, kL_l, kL_k, kL_f, Option.toList_some, Option.toList_none, List.cons_append, List.nil_append, bI_z, N_and, N_or, N_shl, N_shr, Nat.one_mul, Nat.reduceAdd, lg_cmp_eq, L_and, L_or, bI_1, bI_0, if_true, if_false, reduceIte, N_m1x, ite_not]
  refine p_C_lose (d := d + 36) c ?_
  intro g1 hj1 c1 e1 e2
  simp (disch := omega) only [↓s_L_law_1082, ↓s_L_law_1083, ↓s_L_law_1084, ↓s_L_law_1085, ↓s_L_law_1086, ↓s_L_law_1087, ↓s_L_law_1088, nI_leI, nI_ltI, nI_eq, N_z, nI_add, pk_sub, pk_mul, kL_i, kL_r, kL_d, kL_l, kL_k, kL_f, Option.toList_some, Option.toList_none, List.cons_append, List.nil_append, bI_z, N_and, N_or, N_shl, N_shr, Nat.one_mul, Nat.reduceAdd, lg_cmp_eq, L_and, L_or, bI_1, bI_0, if_true, if_false, reduceIte, N_m1x, ite_not]
  refine p_M_lose (d := d + 36) (MR_cg m e1 e2) ?_
  intro g2 hj2 m2 f1 f2
  simp (disch := omega) only [↓s_L_law_1091, ↓s_L_law_1315, ↓s_L_law_1318, nI_leI, nI_ltI, nI_eq, N_z, nI_add, pk_sub, pk_mul, kL_i, kL_r, kL_d, kL_l, kL_k, kL_f, Option.toList_some, Option.toList_none, List.cons_append, List.nil_append, bI_z, N_and, N_or, N_shl, N_shr, Nat.one_mul, Nat.reduceAdd, lg_cmp_eq, L_and, L_or, bI_1, bI_0, if_true, if_false, reduceIte, N_m1x, ite_not, eq_self]
  exact NX _ _ _ _ _ _ (CR_cg c1 f1 f2) m2
theorem b_put (c : CR t n σ τ g hj) (m : MR t n σ τ g hj) (h1 : i + 6 ≤ X.1) (h2 : X.1 < 2147483648) (NX : NXT X d Q i) : wp X (d + 40) m_L_law 1096 [.float 0, .ref 0, .ref 51, .int (nI i)] [] (HP g hj) Q := by
  simp (disch := omega) only [↓s_L_law_1096, ↓s_L_law_1097, ↓s_L_law_1098, ↓s_L_law_1099, ↓s_L_law_1100, ↓s_L_law_1101, ↓s_L_law_1102, ↓s_L_law_1103, ↓s_L_law_1104, ↓s_L_law_1105, ↓s_L_law_1106, ↓s_L_law_1107, ↓s_L_law_1108, ↓s_L_law_1109, ↓s_L_law_1110, ↓s_L_law_1111, ↓s_L_law_1112, ↓s_L_law_1113, ↓s_L_law_1114, ↓s_L_law_1115, ↓s_L_law_1116, ↓s_L_law_1117, nI_leI, nI_ltI, nI_eq, N_z, nI_add, pk_sub, pk_mul, kL_i, kL_r, kL_d, kL_l, kL_k, kL_f, Option.toList_some, Option.toList_none, List.cons_append, List.nil_append, bI_z, N_and, N_or, N_shl, N_shr, Nat.one_mul, Nat.reduceAdd, lg_cmp_eq, L_and, L_or, bI_1, bI_0, if_true, if_false, reduceIte, N_m1x, ite_not]
  refine p_C_put (d := d + 36) c ?_
  intro g1 hj1 c1 e1 e2
  simp (disch := omega) only [↓s_L_law_1120, ↓s_L_law_1121, ↓s_L_law_1122, ↓s_L_law_1123, ↓s_L_law_1124, ↓s_L_law_1125, ↓s_L_law_1126, ↓s_L_law_1127, ↓s_L_law_1128, ↓s_L_law_1129, ↓s_L_law_1130, ↓s_L_law_1131, ↓s_L_law_1132, ↓s_L_law_1133, ↓s_L_law_1134, ↓s_L_law_1135, ↓s_L_law_1136, ↓s_L_law_1137, ↓s_L_law_1138, ↓s_L_law_1139, ↓s_L_law_1140, ↓s_L_law_1141, nI_leI, nI_ltI, nI_eq, N_z, nI_add, pk_sub, pk_mul, kL_i, kL_r, kL_d, kL_l, kL_k, kL_f, Option.toList_some, Option.toList_none, List.cons_append, List.nil_append, bI_z, N_and, N_or, N_shl, N_shr, Nat.one_mul, Nat.reduceAdd, lg_cmp_eq, L_and, L_or, bI_1, bI_0, if_true, if_false, reduceIte, N_m1x, ite_not]
  refine p_M_put (d := d + 36) (MR_cg m e1 e2) ?_
  intro g2 hj2 m2 f1 f2
  simp (disch := omega) only [↓s_L_law_1144, ↓s_L_law_1315, ↓s_L_law_1318, nI_leI, nI_ltI, nI_eq, N_z, nI_add, pk_sub, pk_mul, kL_i, kL_r, kL_d, kL_l, kL_k, kL_f, Option.toList_some, Option.toList_none, List.cons_append, List.nil_append, bI_z, N_and, N_or, N_shl, N_shr, Nat.one_mul, Nat.reduceAdd, lg_cmp_eq, L_and, L_or, bI_1, bI_0, if_true, if_false, reduceIte, N_m1x, ite_not, eq_self]
  exact NX _ _ _ _ _ _ (CR_cg c1 f1 f2) m2
theorem b_get (c : CR t n σ τ g hj) (m : MR t n σ τ g hj) (h1 : i + 6 ≤ X.1) (h2 : X.1 < 2147483648) (NX : NXT X d Q i) : wp X (d + 40) m_L_law 1149 [.float 0, .ref 0, .ref 51, .int (nI i)] [] (HP g hj) Q := by
  simp (disch := omega) only [↓s_L_law_1149, ↓s_L_law_1150, ↓s_L_law_1151, ↓s_L_law_1152, ↓s_L_law_1153, ↓s_L_law_1154, ↓s_L_law_1155, ↓s_L_law_1156, ↓s_L_law_1157, ↓s_L_law_1158, ↓s_L_law_1159, ↓s_L_law_1160, ↓s_L_law_1161, ↓s_L_law_1162, ↓s_L_law_1163, ↓s_L_law_1164, ↓s_L_law_1165, nI_leI, nI_ltI, nI_eq, N_z, nI_add, pk_sub, pk_mul, kL_i, kL_r, kL_d, kL_l, kL_k, kL_f, Option.toList_some, Option.toList_none, List.cons_append, List.nil_append, bI_z, N_and, N_or, N_shl, N_shr, Nat.one_mul, Nat.reduceAdd, lg_cmp_eq, L_and, L_or, bI_1, bI_0, if_true, if_false, reduceIte, N_m1x, ite_not]
  refine p_C_get (d := d + 36) c ?_
  intro g1 hj1 c1 e1 e2
  simp (disch := omega) only [↓s_L_law_1168, ↓s_L_law_1169, ↓s_L_law_1170, ↓s_L_law_1171, ↓s_L_law_1172, ↓s_L_law_1173, ↓s_L_law_1174, ↓s_L_law_1175, ↓s_L_law_1176, ↓s_L_law_1177, ↓s_L_law_1178, ↓s_L_law_1179, ↓s_L_law_1180, ↓s_L_law_1181, ↓s_L_law_1182, ↓s_L_law_1183, ↓s_L_law_1184, nI_leI, nI_ltI, nI_eq, N_z, nI_add, pk_sub, pk_mul, kL_i, kL_r, kL_d, kL_l, kL_k, kL_f, Option.toList_some, Option.toList_none, List.cons_append, List.nil_append, bI_z, N_and, N_or, N_shl, N_shr, Nat.one_mul, Nat.reduceAdd, lg_cmp_eq, L_and, L_or, bI_1, bI_0, if_true, if_false, reduceIte, N_m1x, ite_not]
  refine p_M_get (d := d + 36) (MR_cg m e1 e2) ?_
  intro g2 hj2 m2 f1 f2
  simp (disch := omega) only [↓s_L_law_1187, ↓s_L_law_1315, ↓s_L_law_1318, nI_leI, nI_ltI, nI_eq, N_z, nI_add, pk_sub, pk_mul, kL_i, kL_r, kL_d, kL_l, kL_k, kL_f, Option.toList_some, Option.toList_none, List.cons_append, List.nil_append, bI_z, N_and, N_or, N_shl, N_shr, Nat.one_mul, Nat.reduceAdd, lg_cmp_eq, L_and, L_or, bI_1, bI_0, if_true, if_false, reduceIte, N_m1x, ite_not, eq_self]
  exact NX _ _ _ _ _ _ (CR_cg c1 f1 f2) m2
theorem b_copy (c : CR t n σ τ g hj) (m : MR t n σ τ g hj) (h1 : i + 6 ≤ X.1) (h2 : X.1 < 2147483648) (NX : NXT X d Q i) : wp X (d + 40) m_L_law 1192 [.float 0, .ref 0, .ref 51, .int (nI i)] [] (HP g hj) Q := by
  simp (disch := omega) only [↓s_L_law_1192, ↓s_L_law_1193, ↓s_L_law_1194, ↓s_L_law_1195, ↓s_L_law_1196, ↓s_L_law_1197, ↓s_L_law_1198, ↓s_L_law_1199, ↓s_L_law_1200, ↓s_L_law_1201, ↓s_L_law_1202, ↓s_L_law_1203, ↓s_L_law_1204, ↓s_L_law_1205, ↓s_L_law_1206, ↓s_L_law_1207, ↓s_L_law_1208, ↓s_L_law_1209, ↓s_L_law_1210, ↓s_L_law_1211, ↓s_L_law_1212, ↓s_L_law_1213, ↓s_L_law_1214, ↓s_L_law_1215, ↓s_L_law_1216, ↓s_L_law_1217, ↓s_L_law_1218, nI_leI, nI_ltI, nI_eq, N_z, nI_add, pk_sub, pk_mul, kL_i, kL_r, kL_d, kL_l, kL_k, kL_f, Option.toList_some, Option.toList_none, List.cons_append, List.nil_append, bI_z, N_and, N_or, N_shl, N_shr, Nat.one_mul, Nat.reduceAdd, lg_cmp_eq, L_and, L_or, bI_1, bI_0, if_true, if_false, reduceIte, N_m1x, ite_not]
  refine p_C_copy (d := d + 36) c ?_
  intro g1 hj1 c1 e1 e2
  simp (disch := omega) only [↓s_L_law_1221, ↓s_L_law_1222, ↓s_L_law_1223, ↓s_L_law_1224, ↓s_L_law_1225, ↓s_L_law_1226, ↓s_L_law_1227, ↓s_L_law_1228, ↓s_L_law_1229, ↓s_L_law_1230, ↓s_L_law_1231, ↓s_L_law_1232, ↓s_L_law_1233, ↓s_L_law_1234, ↓s_L_law_1235, ↓s_L_law_1236, ↓s_L_law_1237, ↓s_L_law_1238, ↓s_L_law_1239, ↓s_L_law_1240, ↓s_L_law_1241, ↓s_L_law_1242, ↓s_L_law_1243, ↓s_L_law_1244, ↓s_L_law_1245, ↓s_L_law_1246, ↓s_L_law_1247, nI_leI, nI_ltI, nI_eq, N_z, nI_add, pk_sub, pk_mul, kL_i, kL_r, kL_d, kL_l, kL_k, kL_f, Option.toList_some, Option.toList_none, List.cons_append, List.nil_append, bI_z, N_and, N_or, N_shl, N_shr, Nat.one_mul, Nat.reduceAdd, lg_cmp_eq, L_and, L_or, bI_1, bI_0, if_true, if_false, reduceIte, N_m1x, ite_not]
  refine p_M_copy (d := d + 36) (MR_cg m e1 e2) ?_
  intro g2 hj2 m2 f1 f2
  simp (disch := omega) only [↓s_L_law_1250, ↓s_L_law_1315, ↓s_L_law_1318, nI_leI, nI_ltI, nI_eq, N_z, nI_add, pk_sub, pk_mul, kL_i, kL_r, kL_d, kL_l, kL_k, kL_f, Option.toList_some, Option.toList_none, List.cons_append, List.nil_append, bI_z, N_and, N_or, N_shl, N_shr, Nat.one_mul, Nat.reduceAdd, lg_cmp_eq, L_and, L_or, bI_1, bI_0, if_true, if_false, reduceIte, N_m1x, ite_not, eq_self]
  exact NX _ _ _ _ _ _ (CR_cg c1 f1 f2) m2
theorem b_write (c : CR t n σ τ g hj) (m : MR t n σ τ g hj) (h1 : i + 6 ≤ X.1) (h2 : X.1 < 2147483648) (NX : NXT X d Q i) : wp X (d + 40) m_L_law 1255 [.float 0, .ref 0, .ref 51, .int (nI i)] [] (HP g hj) Q := by
  simp (disch := omega) only [↓s_L_law_1255, ↓s_L_law_1256, ↓s_L_law_1257, ↓s_L_law_1258, ↓s_L_law_1259, ↓s_L_law_1260, ↓s_L_law_1261, nI_leI, nI_ltI, nI_eq, N_z, nI_add, pk_sub, pk_mul, kL_i, kL_r, kL_d, kL_l, kL_k, kL_f, Option.toList_some, Option.toList_none, List.cons_append, List.nil_append, bI_z, N_and, N_or, N_shl, N_shr, Nat.one_mul, Nat.reduceAdd, lg_cmp_eq, L_and, L_or, bI_1, bI_0, if_true, if_false, reduceIte, N_m1x, ite_not]
  refine p_C_write (d := d + 6) c ?_
  intro g1 hj1 c1 e1 e2
  simp (disch := omega) only [↓s_L_law_1264, ↓s_L_law_1265, ↓s_L_law_1266, ↓s_L_law_1267, ↓s_L_law_1268, ↓s_L_law_1269, ↓s_L_law_1270, nI_leI, nI_ltI, nI_eq, N_z, nI_add, pk_sub, pk_mul, kL_i, kL_r, kL_d, kL_l, kL_k, kL_f, Option.toList_some, Option.toList_none, List.cons_append, List.nil_append, bI_z, N_and, N_or, N_shl, N_shr, Nat.one_mul, Nat.reduceAdd, lg_cmp_eq, L_and, L_or, bI_1, bI_0, if_true, if_false, reduceIte, N_m1x, ite_not]
  refine p_M_write (d := d + 30) (MR_cg m e1 e2) ?_
  intro g2 hj2 m2 f1 f2
  simp (disch := omega) only [↓s_L_law_1273, ↓s_L_law_1315, ↓s_L_law_1318, nI_leI, nI_ltI, nI_eq, N_z, nI_add, pk_sub, pk_mul, kL_i, kL_r, kL_d, kL_l, kL_k, kL_f, Option.toList_some, Option.toList_none, List.cons_append, List.nil_append, bI_z, N_and, N_or, N_shl, N_shr, Nat.one_mul, Nat.reduceAdd, lg_cmp_eq, L_and, L_or, bI_1, bI_0, if_true, if_false, reduceIte, N_m1x, ite_not, eq_self]
  exact NX _ _ _ _ _ _ (CR_cg c1 f1 f2) m2
theorem b_count (c : CR t n σ τ g hj) (m : MR t n σ τ g hj) (h1 : i + 6 ≤ X.1) (h2 : X.1 < 2147483648) (NX : NXT X d Q i) : wp X (d + 40) m_L_law 1278 [.float 0, .ref 0, .ref 51, .int (nI i)] [] (HP g hj) Q := by
  simp (disch := omega) only [↓s_L_law_1278, ↓s_L_law_1279, ↓s_L_law_1280, ↓s_L_law_1281, ↓s_L_law_1282, ↓s_L_law_1283, ↓s_L_law_1284, nI_leI, nI_ltI, nI_eq, N_z, nI_add, pk_sub, pk_mul, kL_i, kL_r, kL_d, kL_l, kL_k, kL_f, Option.toList_some, Option.toList_none, List.cons_append, List.nil_append, bI_z, N_and, N_or, N_shl, N_shr, Nat.one_mul, Nat.reduceAdd, lg_cmp_eq, L_and, L_or, bI_1, bI_0, if_true, if_false, reduceIte, N_m1x, ite_not]
  refine p_C_count (d := d + 37) c ?_
  intro g1 hj1 c1 e1 e2
  simp (disch := omega) only [↓s_L_law_1287, ↓s_L_law_1288, ↓s_L_law_1289, ↓s_L_law_1290, ↓s_L_law_1291, ↓s_L_law_1292, ↓s_L_law_1293, nI_leI, nI_ltI, nI_eq, N_z, nI_add, pk_sub, pk_mul, kL_i, kL_r, kL_d, kL_l, kL_k, kL_f, Option.toList_some, Option.toList_none, List.cons_append, List.nil_append, bI_z, N_and, N_or, N_shl, N_shr, Nat.one_mul, Nat.reduceAdd, lg_cmp_eq, L_and, L_or, bI_1, bI_0, if_true, if_false, reduceIte, N_m1x, ite_not]
  refine p_M_count (d := d + 37) (MR_cg m e1 e2) ?_
  intro g2 hj2 m2 f1 f2
  simp (disch := omega) only [↓s_L_law_1296, ↓s_L_law_1315, ↓s_L_law_1318, nI_leI, nI_ltI, nI_eq, N_z, nI_add, pk_sub, pk_mul, kL_i, kL_r, kL_d, kL_l, kL_k, kL_f, Option.toList_some, Option.toList_none, List.cons_append, List.nil_append, bI_z, N_and, N_or, N_shl, N_shr, Nat.one_mul, Nat.reduceAdd, lg_cmp_eq, L_and, L_or, bI_1, bI_0, if_true, if_false, reduceIte, N_m1x, ite_not, eq_self]
  exact NX _ _ _ _ _ _ (CR_cg c1 f1 f2) m2
theorem b_digest (c : CR t n σ τ g hj) (m : MR t n σ τ g hj) (h1 : i + 6 ≤ X.1) (h2 : X.1 < 2147483648) (NX : NXT X d Q i) : wp X (d + 40) m_L_law 1301 [.float 0, .ref 0, .ref 51, .int (nI i)] [] (HP g hj) Q := by
  simp (disch := omega) only [↓s_L_law_1301, ↓s_L_law_1302, nI_leI, nI_ltI, nI_eq, N_z, nI_add, pk_sub, pk_mul, kL_i, kL_r, kL_d, kL_l, kL_k, kL_f, Option.toList_some, Option.toList_none, List.cons_append, List.nil_append, bI_z, N_and, N_or, N_shl, N_shr, Nat.one_mul, Nat.reduceAdd, lg_cmp_eq, L_and, L_or, bI_1, bI_0, if_true, if_false, reduceIte, N_m1x, ite_not]
  refine p_C_digest (d := d + 5) c ?_
  intro g1 hj1 c1 e1 e2
  simp (disch := omega) only [↓s_L_law_1305, ↓s_L_law_1306, nI_leI, nI_ltI, nI_eq, N_z, nI_add, pk_sub, pk_mul, kL_i, kL_r, kL_d, kL_l, kL_k, kL_f, Option.toList_some, Option.toList_none, List.cons_append, List.nil_append, bI_z, N_and, N_or, N_shl, N_shr, Nat.one_mul, Nat.reduceAdd, lg_cmp_eq, L_and, L_or, bI_1, bI_0, if_true, if_false, reduceIte, N_m1x, ite_not]
  refine p_M_digest (d := d + 30) (MR_cg m e1 e2) ?_
  intro g2 hj2 m2 f1 f2
  simp (disch := omega) only [↓s_L_law_1309, ↓s_L_law_1310, ↓s_L_law_1315, ↓s_L_law_1318, nI_leI, nI_ltI, nI_eq, N_z, nI_add, pk_sub, pk_mul, kL_i, kL_r, kL_d, kL_l, kL_k, kL_f, Option.toList_some, Option.toList_none, List.cons_append, List.nil_append, bI_z, N_and, N_or, N_shl, N_shr, Nat.one_mul, Nat.reduceAdd, lg_cmp_eq, L_and, L_or, bI_1, bI_0, if_true, if_false, reduceIte, N_m1x, ite_not, eq_self]
  exact NX _ _ _ _ _ _ (CR_cg c1 f1 f2) m2
theorem law_loop (h2 : X.1 < 2147483648) (K : ∀ g hj, Q (some (.int (nI 1))) (HP g hj)) : ∀ (f i : Nat) (t : Nat → Nat) (n : Nat) (σ τ : ST) (g : Nat → Nat → Int32) (hj : Nat → Nat → Int64), X.1 < i + f → i ≤ X.1 → CR t n σ τ g hj → MR t n σ τ g hj → wp X (d + 40) m_L_law 18 [.float 0, .ref 0, .ref 51, .int (nI i)] [] (HP g hj) Q
  | 0, i, t, n, σ, τ, g, hj, hf, hi, c, m => by omega
  | f + 1, i, t, n, σ, τ, g, hj, hf, hi, c, m => by
    have NX : i + 6 ≤ X.1 → NXT X d Q i := fun hx t' n' σ' τ' g' hj' c' m' => law_loop h2 K f (i + 6) t' n' σ' τ' g' hj' (by omega) hx c' m'
    have one : nI 1 = nI 0 ∨ nI 1 = nI 1 := Or.inr rfl
    have fin : wp X (d + 40) m_L_law 1321 [.float 0, .ref 0, .ref 51, .int (nI i)] [] (HP g hj) Q := by
      simp only [↓s_L_law_1321, s_L_law_1322 one]
      exact K g hj
    rw [s_L_law_18]
    simp (disch := omega) only [↓s_L_law_19, ↓s_L_law_20, ↓s_L_law_21, ↓s_L_law_23, ↓s_L_law_24]
    by_cases h6 : X.1 < 6
    · have h0 : ∀ x y : Fin 6, nI x.val - nI 6 < nI y.val := by decide
      have h3 := h0 ⟨X.1, h6⟩ ⟨i, by omega⟩
      rw [if_pos h3]
      exact fin
    have e6 : nI X.1 - nI 6 = nI (X.1 - 6) := pk_sub (by omega)
    simp (disch := omega) only [e6, nI_ltI]
    by_cases hx : X.1 - 6 < i
    · rw [if_pos hx]
      exact fin
    rw [if_neg hx]
    have h1 : i + 6 ≤ X.1 := by omega
    simp (disch := omega) only [↓s_L_law_27, ↓s_L_law_28, ↓s_L_law_29, ↓s_L_law_30, ↓s_L_law_32]
    rw [s_L_law_33]
    by_cases k0 : X.2 i &&& nI 63 = nI 0
    · rw [if_pos k0]
      exact b_type c m h1 h2 (NX h1)
    rw [if_neg k0]
    by_cases k1 : X.2 i &&& nI 63 = nI 1
    · rw [if_pos k1]
      exact b_wipe c m h1 h2 (NX h1)
    rw [if_neg k1]
    by_cases k2 : X.2 i &&& nI 63 = nI 2
    · rw [if_pos k2]
      exact b_fault c m h1 h2 (NX h1)
    rw [if_neg k2]
    by_cases k3 : X.2 i &&& nI 63 = nI 3
    · rw [if_pos k3]
      exact b_ring c m h1 h2 (NX h1)
    rw [if_neg k3]
    by_cases k4 : X.2 i &&& nI 63 = nI 4
    · rw [if_pos k4]
      exact b_anew c m h1 h2 (NX h1)
    rw [if_neg k4]
    by_cases k5 : X.2 i &&& nI 63 = nI 5
    · rw [if_pos k5]
      exact b_held c m h1 h2 (NX h1)
    rw [if_neg k5]
    by_cases k6 : X.2 i &&& nI 63 = nI 6
    · rw [if_pos k6]
      exact b_read c m h1 h2 (NX h1)
    rw [if_neg k6]
    by_cases k7 : X.2 i &&& nI 63 = nI 7
    · rw [if_pos k7]
      exact b_lump c m h1 h2 (NX h1)
    rw [if_neg k7]
    by_cases k8 : X.2 i &&& nI 63 = nI 8
    · rw [if_pos k8]
      exact b_aside c m h1 h2 (NX h1)
    rw [if_neg k8]
    by_cases k9 : X.2 i &&& nI 63 = nI 9
    · rw [if_pos k9]
      exact b_lumpIs c m h1 h2 (NX h1)
    rw [if_neg k9]
    by_cases k10 : X.2 i &&& nI 63 = nI 10
    · rw [if_pos k10]
      exact b_ringIs c m h1 h2 (NX h1)
    rw [if_neg k10]
    by_cases k11 : X.2 i &&& nI 63 = nI 11
    · rw [if_pos k11]
      exact b_can c m h1 h2 (NX h1)
    rw [if_neg k11]
    by_cases k12 : X.2 i &&& nI 63 = nI 12
    · rw [if_pos k12]
      exact b_cells c m h1 h2 (NX h1)
    rw [if_neg k12]
    by_cases k13 : X.2 i &&& nI 63 = nI 13
    · rw [if_pos k13]
      exact b_earlier c m h1 h2 (NX h1)
    rw [if_neg k13]
    by_cases k14 : X.2 i &&& nI 63 = nI 14
    · rw [if_pos k14]
      exact b_ways c m h1 h2 (NX h1)
    rw [if_neg k14]
    by_cases k15 : X.2 i &&& nI 63 = nI 15
    · rw [if_pos k15]
      exact b_stones c m h1 h2 (NX h1)
    rw [if_neg k15]
    by_cases k16 : X.2 i &&& nI 63 = nI 16
    · rw [if_pos k16]
      exact b_best c m h1 h2 (NX h1)
    rw [if_neg k16]
    by_cases k17 : X.2 i &&& nI 63 = nI 17
    · rw [if_pos k17]
      exact b_may c m h1 h2 (NX h1)
    rw [if_neg k17]
    by_cases k18 : X.2 i &&& nI 63 = nI 18
    · rw [if_pos k18]
      exact b_sure c m h1 h2 (NX h1)
    rw [if_neg k18]
    by_cases k19 : X.2 i &&& nI 63 = nI 19
    · rw [if_pos k19]
      exact b_pressed c m h1 h2 (NX h1)
    rw [if_neg k19]
    by_cases k20 : X.2 i &&& nI 63 = nI 20
    · rw [if_pos k20]
      exact b_empty c m h1 h2 (NX h1)
    rw [if_neg k20]
    by_cases k21 : X.2 i &&& nI 63 = nI 21
    · rw [if_pos k21]
      exact b_leftOut c m h1 h2 (NX h1)
    rw [if_neg k21]
    by_cases k22 : X.2 i &&& nI 63 = nI 22
    · rw [if_pos k22]
      exact b_joined c m h1 h2 (NX h1)
    rw [if_neg k22]
    by_cases k23 : X.2 i &&& nI 63 = nI 23
    · rw [if_pos k23]
      exact b_least c m h1 h2 (NX h1)
    rw [if_neg k23]
    by_cases k24 : X.2 i &&& nI 63 = nI 24
    · rw [if_pos k24]
      exact b_ones c m h1 h2 (NX h1)
    rw [if_neg k24]
    by_cases k25 : X.2 i &&& nI 63 = nI 25
    · rw [if_pos k25]
      exact b_near c m h1 h2 (NX h1)
    rw [if_neg k25]
    by_cases k26 : X.2 i &&& nI 63 = nI 26
    · rw [if_pos k26]
      exact b_copyOf c m h1 h2 (NX h1)
    rw [if_neg k26]
    by_cases k27 : X.2 i &&& nI 63 = nI 27
    · rw [if_pos k27]
      exact b_shut c m h1 h2 (NX h1)
    rw [if_neg k27]
    by_cases k28 : X.2 i &&& nI 63 = nI 28
    · rw [if_pos k28]
      exact b_gap c m h1 h2 (NX h1)
    rw [if_neg k28]
    by_cases k29 : X.2 i &&& nI 63 = nI 29
    · rw [if_pos k29]
      exact b_clean c m h1 h2 (NX h1)
    rw [if_neg k29]
    by_cases k30 : X.2 i &&& nI 63 = nI 30
    · rw [if_pos k30]
      exact b_sheet c m h1 h2 (NX h1)
    rw [if_neg k30]
    by_cases k31 : X.2 i &&& nI 63 = nI 31
    · rw [if_pos k31]
      exact b_lose c m h1 h2 (NX h1)
    rw [if_neg k31]
    by_cases k32 : X.2 i &&& nI 63 = nI 32
    · rw [if_pos k32]
      exact b_put c m h1 h2 (NX h1)
    rw [if_neg k32]
    by_cases k33 : X.2 i &&& nI 63 = nI 33
    · rw [if_pos k33]
      exact b_get c m h1 h2 (NX h1)
    rw [if_neg k33]
    by_cases k34 : X.2 i &&& nI 63 = nI 34
    · rw [if_pos k34]
      exact b_copy c m h1 h2 (NX h1)
    rw [if_neg k34]
    by_cases k35 : X.2 i &&& nI 63 = nI 35
    · rw [if_pos k35]
      exact b_write c m h1 h2 (NX h1)
    rw [if_neg k35]
    by_cases k36 : X.2 i &&& nI 63 = nI 36
    · rw [if_pos k36]
      exact b_count c m h1 h2 (NX h1)
    rw [if_neg k36]
    by_cases k37 : X.2 i &&& nI 63 = nI 37
    · rw [if_pos k37]
      exact b_digest c m h1 h2 (NX h1)
    rw [if_neg k37]
    simp (disch := omega) only [↓s_L_law_1315, ↓s_L_law_1318, nI_leI, nI_ltI, nI_eq, N_z, nI_add, pk_sub, pk_mul, kL_i, kL_r, kL_d, kL_l, kL_k, kL_f, Option.toList_some, Option.toList_none, List.cons_append, List.nil_append, bI_z, N_and, N_or, N_shl, N_shr, Nat.one_mul, Nat.reduceAdd, lg_cmp_eq, L_and, L_or, bI_1, bI_0, if_true, if_false, reduceIte, N_m1x, ite_not]
    exact NX h1 _ _ _ _ _ _ c m
end LAW
