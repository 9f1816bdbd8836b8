/-! calls that only read: rings and lumps -/
theorem itc {A : Prop} [Decidable A] {P P2 R : Prop} (h : A → P = P2) : (if A then P else R) = (if A then P2 else R) := by
  by_cases hA : A
  · rw [if_pos hA, if_pos hA, h hA]
  · rw [if_neg hA, if_neg hA]
theorem Qi {A : Prop} [Decidable A] {Q : Option Value → AH → Prop} {x y : Int32} {h : AH} : Q (some (.int (if A then x else y))) h = if A then Q (some (.int x)) h else Q (some (.int y)) h := by
  by_cases hA : A
  · rw [if_pos hA, if_pos hA]
  · rw [if_neg hA, if_neg hA]
theorem in_R {a : Int32} {n : Nat} (h : n < 2147483648) : (nI 0 ≤ a ∧ a ≤ nI n - nI 1) = inR a n := by
  rw [← inr_eq]
  apply propext
  have e0 : (0 : Int32) = nI 0 := rfl
  rw [e0]
  by_cases h0 : n = 0
  · subst h0
    have e1 : nI 0 - nI 1 = -1 := by decide
    have e2 : (-1 : Int32).toInt = -1 := rfl
    rw [e1, Int32.le_iff_toInt_le, Int32.le_iff_toInt_le, Int32.lt_iff_toInt_lt, nI_toInt (by omega), e2]
    omega
  · rw [pk_sub (by omega), Int32.le_iff_toInt_le, Int32.le_iff_toInt_le, Int32.lt_iff_toInt_lt, nI_toInt (by omega), nI_toInt (by omega), nI_toInt (by omega)]
    omega
theorem in_c {a : Int32} {n : Nat} (h : n < 2147483647) : (nI 0 ≤ a ∧ a ≤ nI n) = inR a (n + 1) := by
  rw [← in_R (by omega), pk_sub (by omega)]
  rfl
section PUB1
variable {X : AX} {d : Nat} {Q : Option Value → AH → Prop} {g : Nat → Nat → Int32} {hj : Nat → Nat → Int64} {σ : ST} {a b a1 a2 a3 a4 a5 : Int32} {h : AH}
theorem c_C_isBelowN {n : Nat} : cwp X d m_C_isBelow [.int a, .int (nI n)] h Q = Q (some (.int (bI (inR a n)))) h := by
  rw [c_C_isBelow]
  simp only [inr_eq]
theorem c_C_isRing (c : C0 σ g hj) : cwp X (d + 1) m_C_isRing [.ref 0, .int a] (HP g hj) Q = Q (some (.int (bI (inR a (σ 2 0))))) (HP g hj) := by
  have e := c.2.1.1
  simp only [e_C_isRing, ↓s_C_isRing_0, ↓s_C_isRing_1, ↓s_C_isRing_2, ↓s_C_isRing_5, ↓s_C_isRing_8, ↓s_C_isRing_11_0, ↓s_C_isRing_11_1, ↓s_C_isRing_11_b, c_C_isBelowN, nI_leI, nI_ltI, nI_eq, N_z, nI_add, pk_sub, pk_mul, kL_i, kL_r, kL_d, kL_l, kL_k, kL_f, Option.toList_some, Option.toList_none, List.cons_append, List.nil_append, bI_z, N_and, N_or, N_shl, N_shr, Nat.one_mul, Nat.reduceAdd, lg_cmp_eq, L_and, L_or, bI_1, bI_0, if_true, if_false, reduceIte, N_m1x, ite_not, e]
theorem c_C_isLump (c : C0 σ g hj) : cwp X (d + 1) m_C_isLump [.ref 0, .int a] (HP g hj) Q = Q (some (.int (bI (inR a (σ 11 0))))) (HP g hj) := by
  have e := c.2.2.2.1
  simp only [e_C_isLump, ↓s_C_isLump_0, ↓s_C_isLump_1, ↓s_C_isLump_2, ↓s_C_isLump_5, ↓s_C_isLump_8, ↓s_C_isLump_11_0, ↓s_C_isLump_11_1, ↓s_C_isLump_11_b, c_C_isBelowN, nI_leI, nI_ltI, nI_eq, N_z, nI_add, pk_sub, pk_mul, kL_i, kL_r, kL_d, kL_l, kL_k, kL_f, Option.toList_some, Option.toList_none, List.cons_append, List.nil_append, bI_z, N_and, N_or, N_shl, N_shr, Nat.one_mul, Nat.reduceAdd, lg_cmp_eq, L_and, L_or, bI_1, bI_0, if_true, if_false, reduceIte, N_m1x, ite_not, e]
theorem c_C_isDay : cwp X (d + 1) m_C_isDay [.int a] h Q = Q (some (.int (bI (inR a 60)))) h := by
  simp only [e_C_isDay, ↓s_C_isDay_0, ↓s_C_isDay_1, ↓s_C_isDay_3, ↓s_C_isDay_6_0, ↓s_C_isDay_6_1, ↓s_C_isDay_6_b, c_C_isBelowN, nI_leI, nI_ltI, nI_eq, N_z, nI_add, pk_sub, pk_mul, kL_i, kL_r, kL_d, kL_l, kL_k, kL_f, Option.toList_some, Option.toList_none, List.cons_append, List.nil_append, bI_z, N_and, N_or, N_shl, N_shr, Nat.one_mul, Nat.reduceAdd, lg_cmp_eq, L_and, L_or, bI_1, bI_0, if_true, if_false, reduceIte, N_m1x, ite_not]
theorem c_M_isRing (c : M0 σ g hj) : cwp X (d + 1) m_M_isRing [.ref 51, .int a] (HP g hj) Q = Q (some (.int (bI (inR a (σ 2 0))))) (HP g hj) := by
  have e := c.2.1.1
  have w := c.1.2.1.1
  simp (disch := omega) only [e_M_isRing, ↓s_M_isRing_0, ↓s_M_isRing_1, ↓s_M_isRing_2, ↓s_M_isRing_3, ↓s_M_isRing_6, ↓s_M_isRing_7, ↓s_M_isRing_8, ↓s_M_isRing_11_0, ↓s_M_isRing_11_1, ↓s_M_isRing_11_b, c_M_in, Option.toList_some, List.cons_append, List.nil_append, e, in_R]
theorem c_M_isLump (c : M0 σ g hj) : cwp X (d + 1) m_M_isLump [.ref 51, .int a] (HP g hj) Q = Q (some (.int (bI (inR a (σ 11 0))))) (HP g hj) := by
  have e := c.2.2.2.1
  have w := c.1.2.2.2.1.1
  simp (disch := omega) only [e_M_isLump, ↓s_M_isLump_0, ↓s_M_isLump_1, ↓s_M_isLump_2, ↓s_M_isLump_3, ↓s_M_isLump_6, ↓s_M_isLump_7, ↓s_M_isLump_8, ↓s_M_isLump_11_0, ↓s_M_isLump_11_1, ↓s_M_isLump_11_b, c_M_in, Option.toList_some, List.cons_append, List.nil_append, e, in_R]
theorem c_M_isDay : cwp X (d + 1) m_M_isDay [.int a] h Q = Q (some (.int (bI (inR a 60)))) h := by
  simp (disch := omega) only [e_M_isDay, ↓s_M_isDay_0, ↓s_M_isDay_1, ↓s_M_isDay_2, ↓s_M_isDay_4, ↓s_M_isDay_7_0, ↓s_M_isDay_7_1, ↓s_M_isDay_7_b, c_M_in, Option.toList_some, List.cons_append, List.nil_append, in_c, Nat.reduceAdd]
theorem c_Lumps_marksOf {l : Nat} (c : C0 σ g hj) (hl : l < σ 11 0) : cwp X d m_Lumps_marksOf [.ref 10, .int (nI l)] (HP g hj) Q = Q (some (.int (nI (σ 12 l)))) (HP g hj) := by
  have w := c.1.2.2.2.1.1
  have e := ((c.2.2.2.2.2 l hl).1 0 (by omega)).1
  rw [Nat.add_zero] at e
  simp (disch := omega) only [e_Lumps_marksOf, ↓s_Lumps_marksOf_0, ↓s_Lumps_marksOf_1, ↓s_Lumps_marksOf_4, ↓s_Lumps_marksOf_5, ↓s_Lumps_marksOf_6, ↓s_Lumps_marksOf_7, ↓s_Lumps_marksOf_8, nI_leI, nI_ltI, nI_eq, N_z, nI_add, pk_sub, pk_mul, kL_i, kL_r, kL_d, kL_l, kL_k, kL_f, Option.toList_some, Option.toList_none, List.cons_append, List.nil_append, bI_z, N_and, N_or, N_shl, N_shr, Nat.one_mul, Nat.reduceAdd, lg_cmp_eq, L_and, L_or, bI_1, bI_0, if_true, if_false, reduceIte, N_m1x, ite_not, e]
  rfl
theorem c_Lumps_isAside {l : Nat} (c : C0 σ g hj) (hl : l < 32) : cwp X (d + 1) m_Lumps_isAside [.ref 10, .int (nI l)] (HP g hj) Q = Q (some (.int (bI ((σ 18 0).testBit l = true)))) (HP g hj) := by
  have w := c.1.2.2.2.1.1
  have w2 := c.1.2.2.2.2.1
  have w3 : 2 ^ σ 11 0 ≤ 2 ^ 12 := pow_le w
  have e := c.2.2.2.2.1
  simp (disch := omega) only [e_Lumps_isAside, ↓s_Lumps_isAside_0, ↓s_Lumps_isAside_1, ↓s_Lumps_isAside_4, ↓s_Lumps_isAside_5, ↓s_Lumps_isAside_8_0, ↓s_Lumps_isAside_8_1, ↓s_Lumps_isAside_8_b, c_C_hasBit, nI_leI, nI_ltI, nI_eq, N_z, nI_add, pk_sub, pk_mul, kL_i, kL_r, kL_d, kL_l, kL_k, kL_f, Option.toList_some, Option.toList_none, List.cons_append, List.nil_append, bI_z, N_and, N_or, N_shl, N_shr, Nat.one_mul, Nat.reduceAdd, lg_cmp_eq, L_and, L_or, bI_1, bI_0, if_true, if_false, reduceIte, N_m1x, ite_not, e]
/-- lumpIs -/
def aLumpN (σ : ST) (l : Nat) (b : Int32) : Int32 := if b = nI 0 then nI (σ 12 l) else if b = nI 1 then nI (σ 13 l) else if b = nI 2 then nI (σ 14 l) else if b = nI 3 then nI (σ 15 l) else if b = nI 4 then nI (σ 16 l) else if b = nI 5 then nI (σ 17 l) else if b = nI 6 then nI (σ 18 0 / 2 ^ l % 2) else -2
def aLumpIs (σ : ST) (a b : Int32) : Int32 := if inR a (σ 11 0) then aLumpN σ (nn a) b else -2
theorem bI_tb (x k : Nat) : bI (x.testBit k = true) = nI (x / 2 ^ k % 2) := by
  have h := tb_dm x k
  rcases tb_01 x k with e | e
  · rw [e]
    exact bI_f (fun z => by rw [← h] at z; omega)
  · rw [e]
    exact bI_t (by rw [← h]; exact e)
theorem p_C_lumpIs (c : C0 σ g hj) : cwp X (d + 2) m_C_lumpIs [.ref 0, .int a, .int b] (HP g hj) Q = Q (some (.int (aLumpIs σ a b))) (HP g hj) := by
  have w := c.1.2.2.2.1.1
  unfold aLumpIs
  simp only [e_C_lumpIs, ↓s_C_lumpIs_0, ↓s_C_lumpIs_1, ↓s_C_lumpIs_2, ↓s_C_lumpIs_5, ↓s_C_lumpIs_8, ↓s_C_lumpIs_10, ↓s_C_lumpIs_11, ↓s_C_lumpIs_12, c_C_isLump c, nI_leI, nI_ltI, nI_eq, N_z, nI_add, pk_sub, pk_mul, kL_i, kL_r, kL_d, kL_l, kL_k, kL_f, Option.toList_some, Option.toList_none, List.cons_append, List.nil_append, bI_z, N_and, N_or, N_shl, N_shr, Nat.one_mul, Nat.reduceAdd, lg_cmp_eq, L_and, L_or, bI_1, bI_0, if_true, if_false, reduceIte, N_m1x, ite_not, Qi, ite_not]
  refine itc (fun h1 => ?_)
  obtain ⟨l, hl, rfl⟩ := inR_n h1 (by omega)
  rw [nn_n (by omega)]
  obtain ⟨e0, e1, e2, e3, e4, e5⟩ := c.2.2.2.2.2 l hl
  unfold aLumpN
  simp (disch := omega) only [↓s_C_lumpIs_56, ↓s_C_lumpIs_57, ↓s_C_lumpIs_60, ↓s_C_lumpIs_61, ↓s_C_lumpIs_64, ↓s_C_lumpIs_65, ↓s_C_lumpIs_66, ↓s_C_lumpIs_69, ↓s_C_lumpIs_72, ↓s_C_lumpIs_73, ↓s_C_lumpIs_74, ↓s_C_lumpIs_75, ↓s_C_lumpIs_76, ↓s_C_lumpIs_79, ↓s_C_lumpIs_82, ↓s_C_lumpIs_83, ↓s_C_lumpIs_84, ↓s_C_lumpIs_85, ↓s_C_lumpIs_86, ↓s_C_lumpIs_89, ↓s_C_lumpIs_92, ↓s_C_lumpIs_93, ↓s_C_lumpIs_94, ↓s_C_lumpIs_95, ↓s_C_lumpIs_96, ↓s_C_lumpIs_99, ↓s_C_lumpIs_102, ↓s_C_lumpIs_103, ↓s_C_lumpIs_104, ↓s_C_lumpIs_105, ↓s_C_lumpIs_106, ↓s_C_lumpIs_109, ↓s_C_lumpIs_112, ↓s_C_lumpIs_113, ↓s_C_lumpIs_114, ↓s_C_lumpIs_115, ↓s_C_lumpIs_116, ↓s_C_lumpIs_119, ↓s_C_lumpIs_120, ↓s_C_lumpIs_123, ↓s_C_lumpIs_126, ↓s_C_lumpIs_127, ↓s_C_lumpIs_130, ↓s_C_lumpIs_131, ↓s_C_lumpIs_132, ↓s_C_lumpIs_134, c_Lumps_marksOf c, c_Lumps_isAside c, nI_leI, nI_ltI, nI_eq, N_z, nI_add, pk_sub, pk_mul, kL_i, kL_r, kL_d, kL_l, kL_k, kL_f, Option.toList_some, Option.toList_none, List.cons_append, List.nil_append, bI_z, N_and, N_or, N_shl, N_shr, Nat.one_mul, Nat.reduceAdd, lg_cmp_eq, L_and, L_or, bI_1, bI_0, if_true, if_false, reduceIte, N_m1x, ite_not, Qi, e1, e2, e3, e4, e5]
  simp only [ite_b (P := fun z => Q (some (.int z)) (HP g hj)), bI_tb]
theorem c_M_lumpNow {l : Nat} (c : M0 σ g hj) (hl : l < σ 11 0) : cwp X d m_M_lumpNow [.ref 51, .int (nI l), .int b] (HP g hj) Q = Q (some (.int (aLumpN σ l b))) (HP g hj) := by
  have w := c.1.2.2.2.1.1
  have w2 := c.1.2.2.2.2.1
  have w3 : 2 ^ σ 11 0 ≤ 2 ^ 12 := pow_le w
  have e := c.2.2.2.2.1
  obtain ⟨e0, e1, e2, e3, e4, e5⟩ := c.2.2.2.2.2 l hl
  unfold aLumpN
  simp (disch := omega) only [e_M_lumpNow, ↓s_M_lumpNow_0, ↓s_M_lumpNow_1, ↓s_M_lumpNow_44, ↓s_M_lumpNow_45, ↓s_M_lumpNow_48, ↓s_M_lumpNow_49, ↓s_M_lumpNow_50, ↓s_M_lumpNow_51, ↓s_M_lumpNow_52, ↓s_M_lumpNow_55, ↓s_M_lumpNow_56, ↓s_M_lumpNow_57, ↓s_M_lumpNow_58, ↓s_M_lumpNow_59, ↓s_M_lumpNow_62, ↓s_M_lumpNow_63, ↓s_M_lumpNow_64, ↓s_M_lumpNow_65, ↓s_M_lumpNow_66, ↓s_M_lumpNow_69, ↓s_M_lumpNow_70, ↓s_M_lumpNow_71, ↓s_M_lumpNow_72, ↓s_M_lumpNow_73, ↓s_M_lumpNow_76, ↓s_M_lumpNow_77, ↓s_M_lumpNow_78, ↓s_M_lumpNow_79, ↓s_M_lumpNow_80, ↓s_M_lumpNow_83, ↓s_M_lumpNow_84, ↓s_M_lumpNow_85, ↓s_M_lumpNow_86, ↓s_M_lumpNow_87, ↓s_M_lumpNow_90, ↓s_M_lumpNow_91, ↓s_M_lumpNow_92, ↓s_M_lumpNow_93, ↓s_M_lumpNow_94, ↓s_M_lumpNow_95, ↓s_M_lumpNow_97, nI_leI, nI_ltI, nI_eq, N_z, nI_add, pk_sub, pk_mul, kL_i, kL_r, kL_d, kL_l, kL_k, kL_f, Option.toList_some, Option.toList_none, List.cons_append, List.nil_append, bI_z, N_and, N_or, N_shl, N_shr, Nat.one_mul, Nat.reduceAdd, lg_cmp_eq, L_and, L_or, bI_1, bI_0, if_true, if_false, reduceIte, N_m1x, ite_not, Qi, e, e0, e1, e2, e3, e4, e5, Nat.and_one_is_mod]
theorem p_M_lumpIs (c : M0 σ g hj) : cwp X (d + 2) m_M_lumpIs [.ref 51, .int a, .int b] (HP g hj) Q = Q (some (.int (aLumpIs σ a b))) (HP g hj) := by
  have w := c.1.2.2.2.1.1
  unfold aLumpIs
  simp only [e_M_lumpIs, ↓s_M_lumpIs_0, ↓s_M_lumpIs_1, ↓s_M_lumpIs_2, ↓s_M_lumpIs_5, ↓s_M_lumpIs_8, ↓s_M_lumpIs_9, ↓s_M_lumpIs_10, ↓s_M_lumpIs_11, ↓s_M_lumpIs_14, ↓s_M_lumpIs_17, ↓s_M_lumpIs_19, c_M_isLump c, nI_leI, nI_ltI, nI_eq, N_z, nI_add, pk_sub, pk_mul, kL_i, kL_r, kL_d, kL_l, kL_k, kL_f, Option.toList_some, Option.toList_none, List.cons_append, List.nil_append, bI_z, N_and, N_or, N_shl, N_shr, Nat.one_mul, Nat.reduceAdd, lg_cmp_eq, L_and, L_or, bI_1, bI_0, if_true, if_false, reduceIte, N_m1x, ite_not, Qi, ite_not]
  refine itc (fun h1 => ?_)
  obtain ⟨l, hl, rfl⟩ := inR_n h1 (by omega)
  rw [nn_n (by omega)]
  simp (disch := omega) only [↓s_M_lumpIs_0, ↓s_M_lumpIs_1, ↓s_M_lumpIs_2, ↓s_M_lumpIs_5, ↓s_M_lumpIs_8, ↓s_M_lumpIs_9, ↓s_M_lumpIs_10, ↓s_M_lumpIs_11, ↓s_M_lumpIs_14, ↓s_M_lumpIs_17, ↓s_M_lumpIs_19, c_M_lumpNow c, nI_leI, nI_ltI, nI_eq, N_z, nI_add, pk_sub, pk_mul, kL_i, kL_r, kL_d, kL_l, kL_k, kL_f, Option.toList_some, Option.toList_none, List.cons_append, List.nil_append, bI_z, N_and, N_or, N_shl, N_shr, Nat.one_mul, Nat.reduceAdd, lg_cmp_eq, L_and, L_or, bI_1, bI_0, if_true, if_false, reduceIte, N_m1x, ite_not]
/-- ringIs -/
def aRingN (σ : ST) (r : Nat) (b : Int32) : Int32 := if b = nI 0 then nI (σ 3 r) else if b = nI 1 then oI (σ 4 r) else if b = nI 2 then oI (σ 5 r) else if b = nI 3 then nI (stone σ r) else if b = nI 4 then nI (hmy σ r) else -2
def aRingIs (σ : ST) (a b : Int32) : Int32 := if inR a (σ 2 0) then aRingN σ (nn a) b else -2
theorem p_C_ringIs (c : C0 σ g hj) : cwp X (d + 2) m_C_ringIs [.ref 0, .int a, .int b] (HP g hj) Q = Q (some (.int (aRingIs σ a b))) (HP g hj) := by
  have w := c.1.2.1.1
  unfold aRingIs
  simp only [e_C_ringIs, ↓s_C_ringIs_0, ↓s_C_ringIs_1, ↓s_C_ringIs_2, ↓s_C_ringIs_5, ↓s_C_ringIs_8, ↓s_C_ringIs_10, ↓s_C_ringIs_11, ↓s_C_ringIs_12, c_C_isRing c, nI_leI, nI_ltI, nI_eq, N_z, nI_add, pk_sub, pk_mul, kL_i, kL_r, kL_d, kL_l, kL_k, kL_f, Option.toList_some, Option.toList_none, List.cons_append, List.nil_append, bI_z, N_and, N_or, N_shl, N_shr, Nat.one_mul, Nat.reduceAdd, lg_cmp_eq, L_and, L_or, bI_1, bI_0, if_true, if_false, reduceIte, N_m1x, ite_not, Qi, ite_not]
  refine itc (fun h1 => ?_)
  obtain ⟨r, hr, rfl⟩ := inR_n h1 (by omega)
  rw [nn_n (by omega)]
  obtain ⟨e0, e1, e2⟩ := c.2.1.2 r hr
  unfold aRingN
  simp (disch := omega) only [↓s_C_ringIs_48, ↓s_C_ringIs_49, ↓s_C_ringIs_52, ↓s_C_ringIs_55, ↓s_C_ringIs_56, ↓s_C_ringIs_57, ↓s_C_ringIs_58, ↓s_C_ringIs_59, ↓s_C_ringIs_62, ↓s_C_ringIs_65, ↓s_C_ringIs_66, ↓s_C_ringIs_67, ↓s_C_ringIs_68, ↓s_C_ringIs_69, ↓s_C_ringIs_72, ↓s_C_ringIs_75, ↓s_C_ringIs_76, ↓s_C_ringIs_77, ↓s_C_ringIs_78, ↓s_C_ringIs_79, ↓s_C_ringIs_82, ↓s_C_ringIs_83, ↓s_C_ringIs_86, ↓s_C_ringIs_87, ↓s_C_ringIs_88, ↓s_C_ringIs_91, ↓s_C_ringIs_92, ↓s_C_ringIs_95, ↓s_C_ringIs_96, ↓s_C_ringIs_98, c_Rings_stoneOf c.1 c.2.1, c_Rings_timesHeld c.1 c.2.2.1, nI_leI, nI_ltI, nI_eq, N_z, nI_add, pk_sub, pk_mul, kL_i, kL_r, kL_d, kL_l, kL_k, kL_f, Option.toList_some, Option.toList_none, List.cons_append, List.nil_append, bI_z, N_and, N_or, N_shl, N_shr, Nat.one_mul, Nat.reduceAdd, lg_cmp_eq, L_and, L_or, bI_1, bI_0, if_true, if_false, reduceIte, N_m1x, ite_not, Qi, e0, e1, e2]
theorem c_M_ringNow {r : Nat} (c : M0 σ g hj) (hr : r < σ 2 0) : cwp X (d + 1) m_M_ringNow [.ref 51, .int (nI r), .int b] (HP g hj) Q = Q (some (.int (aRingN σ r b))) (HP g hj) := by
  have w := c.1.2.1.1
  obtain ⟨e0, e1, e2⟩ := c.2.1.2 r hr
  unfold aRingN
  simp (disch := omega) only [e_M_ringNow, ↓s_M_ringNow_0, ↓s_M_ringNow_1, ↓s_M_ringNow_36, ↓s_M_ringNow_37, ↓s_M_ringNow_40, ↓s_M_ringNow_41, ↓s_M_ringNow_42, ↓s_M_ringNow_43, ↓s_M_ringNow_44, ↓s_M_ringNow_47, ↓s_M_ringNow_48, ↓s_M_ringNow_49, ↓s_M_ringNow_50, ↓s_M_ringNow_51, ↓s_M_ringNow_54, ↓s_M_ringNow_55, ↓s_M_ringNow_56, ↓s_M_ringNow_57, ↓s_M_ringNow_58, ↓s_M_ringNow_59, ↓s_M_ringNow_62, ↓s_M_ringNow_63, ↓s_M_ringNow_64, ↓s_M_ringNow_65, ↓s_M_ringNow_68, ↓s_M_ringNow_69, ↓s_M_ringNow_71, c_M_stoneOf c.1 c.2.1, c_M_heldMany c.1 c.2.2.1, nI_leI, nI_ltI, nI_eq, N_z, nI_add, pk_sub, pk_mul, kL_i, kL_r, kL_d, kL_l, kL_k, kL_f, Option.toList_some, Option.toList_none, List.cons_append, List.nil_append, bI_z, N_and, N_or, N_shl, N_shr, Nat.one_mul, Nat.reduceAdd, lg_cmp_eq, L_and, L_or, bI_1, bI_0, if_true, if_false, reduceIte, N_m1x, ite_not, Qi, e0, e1, e2]
theorem p_M_ringIs (c : M0 σ g hj) : cwp X (d + 2) m_M_ringIs [.ref 51, .int a, .int b] (HP g hj) Q = Q (some (.int (aRingIs σ a b))) (HP g hj) := by
  have w := c.1.2.1.1
  unfold aRingIs
  simp only [e_M_ringIs, ↓s_M_ringIs_0, ↓s_M_ringIs_1, ↓s_M_ringIs_2, ↓s_M_ringIs_5, ↓s_M_ringIs_8, ↓s_M_ringIs_9, ↓s_M_ringIs_10, ↓s_M_ringIs_11, ↓s_M_ringIs_14, ↓s_M_ringIs_17, ↓s_M_ringIs_19, c_M_isRing c, nI_leI, nI_ltI, nI_eq, N_z, nI_add, pk_sub, pk_mul, kL_i, kL_r, kL_d, kL_l, kL_k, kL_f, Option.toList_some, Option.toList_none, List.cons_append, List.nil_append, bI_z, N_and, N_or, N_shl, N_shr, Nat.one_mul, Nat.reduceAdd, lg_cmp_eq, L_and, L_or, bI_1, bI_0, if_true, if_false, reduceIte, N_m1x, ite_not, Qi, ite_not]
  refine itc (fun h1 => ?_)
  obtain ⟨r, hr, rfl⟩ := inR_n h1 (by omega)
  rw [nn_n (by omega)]
  simp (disch := omega) only [↓s_M_ringIs_0, ↓s_M_ringIs_1, ↓s_M_ringIs_2, ↓s_M_ringIs_5, ↓s_M_ringIs_8, ↓s_M_ringIs_9, ↓s_M_ringIs_10, ↓s_M_ringIs_11, ↓s_M_ringIs_14, ↓s_M_ringIs_17, ↓s_M_ringIs_19, c_M_ringNow c, nI_leI, nI_ltI, nI_eq, N_z, nI_add, pk_sub, pk_mul, kL_i, kL_r, kL_d, kL_l, kL_k, kL_f, Option.toList_some, Option.toList_none, List.cons_append, List.nil_append, bI_z, N_and, N_or, N_shl, N_shr, Nat.one_mul, Nat.reduceAdd, lg_cmp_eq, L_and, L_or, bI_1, bI_0, if_true, if_false, reduceIte, N_m1x, ite_not]
/-- can -/
def canN (σ : ST) (l r : Nat) : Nat := bts (fun t => decide (cb σ l r t)) 4
def aCan (σ : ST) (a b : Int32) : Int32 := if inR a (σ 11 0) ∧ inR b (σ 2 0) then nI (canN σ (nn a) (nn b)) else -2
theorem l_C_can {l r : Nat} (c : C0 σ g hj) (hl : l < σ 11 0) (hr : r < σ 2 0) : ∀ (n i : Nat), i + n = 4 → wp X (d + 4) m_C_can 24 [.ref 0, .int (nI l), .int (nI r), .int (nI (bts (fun t => decide (cb σ l r t)) i)), .int (nI i)] [] (HP g hj) Q = Q (some (.int (nI (canN σ l r)))) (HP g hj)
  | 0, i, hi => by
    have : i = 4 := by omega
    subst this
    rw [s_C_can_24]
    simp (disch := omega) only [↓s_C_can_26, ↓s_C_can_27, ↓s_C_can_30, ↓s_C_can_31, ↓s_C_can_34, ↓s_C_can_35, ↓s_C_can_36, ↓s_C_can_38, ↓s_C_can_41, ↓s_C_can_44, ↓s_C_can_45, ↓s_C_can_46, ↓s_C_can_48, ↓s_C_can_49, ↓s_C_can_50, ↓s_C_can_51, ↓s_C_can_54, ↓s_C_can_57, ↓s_C_can_58, nI_leI, nI_ltI, nI_eq, N_z, nI_add, pk_sub, pk_mul, kL_i, kL_r, kL_d, kL_l, kL_k, kL_f, Option.toList_some, Option.toList_none, List.cons_append, List.nil_append, bI_z, N_and, N_or, N_shl, N_shr, Nat.one_mul, Nat.reduceAdd, lg_cmp_eq, L_and, L_or, bI_1, bI_0, if_true, if_false, reduceIte, N_m1x, ite_not, Nat.le_refl]
    rfl
  | n + 1, i, hi => by
    have e : bts (fun t => decide (cb σ l r t)) (i + 1) = bts (fun t => decide (cb σ l r t)) i ||| (if decide (cb σ l r i) = true then 2 ^ i else 0) := rfl
    rw [s_C_can_24]
    simp (disch := first | assumption | omega) only [↓s_C_can_26, ↓s_C_can_27, ↓s_C_can_30, ↓s_C_can_31, ↓s_C_can_34, ↓s_C_can_35, ↓s_C_can_36, ↓s_C_can_38, ↓s_C_can_41, ↓s_C_can_44, ↓s_C_can_45, ↓s_C_can_46, ↓s_C_can_48, ↓s_C_can_49, ↓s_C_can_50, ↓s_C_can_51, ↓s_C_can_54, ↓s_C_can_57, ↓s_C_can_58, nI_leI, nI_ltI, nI_eq, N_z, nI_add, pk_sub, pk_mul, kL_i, kL_r, kL_d, kL_l, kL_k, kL_f, Option.toList_some, Option.toList_none, List.cons_append, List.nil_append, bI_z, N_and, N_or, N_shl, N_shr, Nat.one_mul, Nat.reduceAdd, lg_cmp_eq, L_and, L_or, bI_1, bI_0, if_true, if_false, reduceIte, N_m1x, ite_not, c_Matches_canBe c]
    rw [if_neg (by omega)]
    by_cases hp : cb σ l r i
    · rw [if_pos hp]
      rw [if_pos (decide_eq_true hp)] at e
      rw [← e]
      exact l_C_can c hl hr n (i + 1) (by omega)
    · rw [if_neg hp]
      rw [if_neg (by simpa using hp), Nat.or_zero] at e
      rw [← e]
      exact l_C_can c hl hr n (i + 1) (by omega)
theorem p_C_can (c : C0 σ g hj) : cwp X (d + 4) m_C_can [.ref 0, .int a, .int b] (HP g hj) Q = Q (some (.int (aCan σ a b))) (HP g hj) := by
  have w := c.1.2.2.2.1.1
  have w2 := c.1.2.1.1
  unfold aCan
  simp only [e_C_can, ↓s_C_can_0, ↓s_C_can_1, ↓s_C_can_2, ↓s_C_can_5, ↓s_C_can_8, ↓s_C_can_9, ↓s_C_can_10, ↓s_C_can_13, ↓s_C_can_16, ↓s_C_can_18, ↓s_C_can_19, ↓s_C_can_20, ↓s_C_can_21, ↓s_C_can_22, c_C_isRing c, c_C_isLump c, nI_leI, nI_ltI, nI_eq, N_z, nI_add, pk_sub, pk_mul, kL_i, kL_r, kL_d, kL_l, kL_k, kL_f, Option.toList_some, Option.toList_none, List.cons_append, List.nil_append, bI_z, N_and, N_or, N_shl, N_shr, Nat.one_mul, Nat.reduceAdd, lg_cmp_eq, L_and, L_or, bI_1, bI_0, if_true, if_false, reduceIte, N_m1x, ite_not, Qi, ite_not, ita]
  refine itc (fun h1 => itc (fun h2 => ?_))
  obtain ⟨l, hl, rfl⟩ := inR_n h1 (by omega)
  obtain ⟨r, hr, rfl⟩ := inR_n h2 (by omega)
  rw [nn_n (by omega), nn_n (by omega)]
  exact l_C_can c hl hr 4 0 rfl
theorem l_M_can {l r : Nat} (c : M0 σ g hj) (hl : l < σ 11 0) (hr : r < σ 2 0) : ∀ (n i : Nat), i + n = 4 → wp X (d + 4) m_M_can 24 [.ref 51, .int (nI l), .int (nI r), .int (nI (bts (fun t => decide (cb σ l r t)) i)), .int (nI i)] [] (HP g hj) Q = Q (some (.int (nI (canN σ l r)))) (HP g hj)
  | 0, i, hi => by
    have : i = 4 := by omega
    subst this
    rw [s_M_can_24]
    simp (disch := omega) only [↓s_M_can_26, ↓s_M_can_27, ↓s_M_can_30, ↓s_M_can_31, ↓s_M_can_32, ↓s_M_can_33, ↓s_M_can_34, ↓s_M_can_36, ↓s_M_can_39, ↓s_M_can_42, ↓s_M_can_43, ↓s_M_can_45, ↓s_M_can_46, ↓s_M_can_49, ↓s_M_can_50, ↓s_M_can_51, ↓s_M_can_52, ↓s_M_can_55, ↓s_M_can_58, ↓s_M_can_59, nI_leI, nI_ltI, nI_eq, N_z, nI_add, pk_sub, pk_mul, kL_i, kL_r, kL_d, kL_l, kL_k, kL_f, Option.toList_some, Option.toList_none, List.cons_append, List.nil_append, bI_z, N_and, N_or, N_shl, N_shr, Nat.one_mul, Nat.reduceAdd, lg_cmp_eq, L_and, L_or, bI_1, bI_0, if_true, if_false, reduceIte, N_m1x, ite_not, Nat.le_refl]
    rfl
  | n + 1, i, hi => by
    have e : bts (fun t => decide (cb σ l r t)) (i + 1) = bts (fun t => decide (cb σ l r t)) i ||| (if decide (cb σ l r i) = true then 2 ^ i else 0) := rfl
    rw [s_M_can_24]
    simp (disch := first | assumption | omega) only [↓s_M_can_26, ↓s_M_can_27, ↓s_M_can_30, ↓s_M_can_31, ↓s_M_can_32, ↓s_M_can_33, ↓s_M_can_34, ↓s_M_can_36, ↓s_M_can_39, ↓s_M_can_42, ↓s_M_can_43, ↓s_M_can_45, ↓s_M_can_46, ↓s_M_can_49, ↓s_M_can_50, ↓s_M_can_51, ↓s_M_can_52, ↓s_M_can_55, ↓s_M_can_58, ↓s_M_can_59, nI_leI, nI_ltI, nI_eq, N_z, nI_add, pk_sub, pk_mul, kL_i, kL_r, kL_d, kL_l, kL_k, kL_f, Option.toList_some, Option.toList_none, List.cons_append, List.nil_append, bI_z, N_and, N_or, N_shl, N_shr, Nat.one_mul, Nat.reduceAdd, lg_cmp_eq, L_and, L_or, bI_1, bI_0, if_true, if_false, reduceIte, N_m1x, ite_not, c_M_canBe c]
    rw [if_neg (by omega)]
    by_cases hp : cb σ l r i
    · rw [if_pos hp]
      rw [if_pos (decide_eq_true hp)] at e
      rw [← e]
      exact l_M_can c hl hr n (i + 1) (by omega)
    · rw [if_neg hp]
      rw [if_neg (by simpa using hp)] at e
      rw [← e]
      exact l_M_can c hl hr n (i + 1) (by omega)
theorem p_M_can (c : M0 σ g hj) : cwp X (d + 4) m_M_can [.ref 51, .int a, .int b] (HP g hj) Q = Q (some (.int (aCan σ a b))) (HP g hj) := by
  have w := c.1.2.2.2.1.1
  have w2 := c.1.2.1.1
  unfold aCan
  simp only [e_M_can, ↓s_M_can_0, ↓s_M_can_1, ↓s_M_can_2, ↓s_M_can_5, ↓s_M_can_8, ↓s_M_can_9, ↓s_M_can_10, ↓s_M_can_13, ↓s_M_can_16, ↓s_M_can_18, ↓s_M_can_19, ↓s_M_can_20, ↓s_M_can_21, ↓s_M_can_22, c_M_isRing c, c_M_isLump c, nI_leI, nI_ltI, nI_eq, N_z, nI_add, pk_sub, pk_mul, kL_i, kL_r, kL_d, kL_l, kL_k, kL_f, Option.toList_some, Option.toList_none, List.cons_append, List.nil_append, bI_z, N_and, N_or, N_shl, N_shr, Nat.one_mul, Nat.reduceAdd, lg_cmp_eq, L_and, L_or, bI_1, bI_0, if_true, if_false, reduceIte, N_m1x, ite_not, Qi, ite_not, ita]
  refine itc (fun h1 => itc (fun h2 => ?_))
  obtain ⟨l, hl, rfl⟩ := inR_n h1 (by omega)
  obtain ⟨r, hr, rfl⟩ := inR_n h2 (by omega)
  rw [nn_n (by omega), nn_n (by omega)]
  exact l_M_can c hl hr 4 0 rfl
/-- cells -/
def aCells (σ : ST) (a1 a2 a3 a4 : Int32) : Int32 := if inR a1 (σ 11 0) ∧ inR a2 (σ 2 0) ∧ inR a3 4 ∧ inR a4 2 then (if cb σ (nn a1) (nn a2) (nn a3) then (if nn a4 = 0 then nI (ch σ (nn a1) (nn a2) (nn a3)) else nI (wh σ (nn a1) (nn a3))) else -3) else -2
theorem p_C_cells (c : C0 σ g hj) : cwp X (d + 4) m_C_cells [.ref 0, .int a1, .int a2, .int a3, .int a4] (HP g hj) Q = Q (some (.int (aCells σ a1 a2 a3 a4))) (HP g hj) := by
  have w := c.1.2.2.2.1.1
  have w2 := c.1.2.1.1
  unfold aCells
  simp only [e_C_cells, ↓s_C_cells_0, ↓s_C_cells_1, ↓s_C_cells_2, ↓s_C_cells_5, ↓s_C_cells_8, ↓s_C_cells_9, ↓s_C_cells_10, ↓s_C_cells_13, ↓s_C_cells_16, ↓s_C_cells_17, ↓s_C_cells_18, ↓s_C_cells_21, ↓s_C_cells_24, ↓s_C_cells_26, ↓s_C_cells_27, ↓s_C_cells_30, ↓s_C_cells_33, ↓s_C_cells_35, c_C_isRing c, c_C_isLump c, c_C_isBelowN, nI_leI, nI_ltI, nI_eq, N_z, nI_add, pk_sub, pk_mul, kL_i, kL_r, kL_d, kL_l, kL_k, kL_f, Option.toList_some, Option.toList_none, List.cons_append, List.nil_append, bI_z, N_and, N_or, N_shl, N_shr, Nat.one_mul, Nat.reduceAdd, lg_cmp_eq, L_and, L_or, bI_1, bI_0, if_true, if_false, reduceIte, N_m1x, ite_not, Qi, ite_not, ita]
  refine itc (fun h1 => itc (fun h2 => itc (fun h3 => itc (fun h4 => ?_))))
  obtain ⟨l, hl, rfl⟩ := inR_n h1 (by omega)
  obtain ⟨r, hr, rfl⟩ := inR_n h2 (by omega)
  obtain ⟨t, ht, rfl⟩ := inR_n h3 (by omega)
  obtain ⟨u, hu, rfl⟩ := inR_n h4 (by omega)
  simp only [nn_n (show l < 2147483648 by omega), nn_n (show r < 2147483648 by omega), nn_n (show t < 2147483648 by omega), nn_n (show u < 2147483648 by omega)]
  simp (disch := first | assumption | omega) only [↓s_C_cells_36, ↓s_C_cells_37, ↓s_C_cells_40, ↓s_C_cells_41, ↓s_C_cells_42, ↓s_C_cells_43, ↓s_C_cells_46, ↓s_C_cells_49, ↓s_C_cells_51, ↓s_C_cells_52, ↓s_C_cells_54, ↓s_C_cells_57, ↓s_C_cells_58, ↓s_C_cells_61, ↓s_C_cells_62, ↓s_C_cells_63, ↓s_C_cells_64, ↓s_C_cells_67, ↓s_C_cells_70, ↓s_C_cells_71, ↓s_C_cells_74, ↓s_C_cells_75, ↓s_C_cells_76, ↓s_C_cells_79, c_Matches_canBe c, c_Matches_chipped c, c_Matches_whole c, nI_leI, nI_ltI, nI_eq, N_z, nI_add, pk_sub, pk_mul, kL_i, kL_r, kL_d, kL_l, kL_k, kL_f, Option.toList_some, Option.toList_none, List.cons_append, List.nil_append, bI_z, N_and, N_or, N_shl, N_shr, Nat.one_mul, Nat.reduceAdd, lg_cmp_eq, L_and, L_or, bI_1, bI_0, if_true, if_false, reduceIte, N_m1x, ite_not, Qi, ite_not]
theorem p_M_cells (c : M0 σ g hj) : cwp X (d + 4) m_M_cells [.ref 51, .int a1, .int a2, .int a3, .int a4] (HP g hj) Q = Q (some (.int (aCells σ a1 a2 a3 a4))) (HP g hj) := by
  have w := c.1.2.2.2.1.1
  have w2 := c.1.2.1.1
  unfold aCells
  simp (disch := omega) only [e_M_cells, ↓s_M_cells_0, ↓s_M_cells_1, ↓s_M_cells_2, ↓s_M_cells_5, ↓s_M_cells_8, ↓s_M_cells_9, ↓s_M_cells_10, ↓s_M_cells_13, ↓s_M_cells_16, ↓s_M_cells_17, ↓s_M_cells_18, ↓s_M_cells_19, ↓s_M_cells_22, ↓s_M_cells_25, ↓s_M_cells_27, ↓s_M_cells_28, ↓s_M_cells_29, ↓s_M_cells_32, ↓s_M_cells_35, ↓s_M_cells_37, c_M_isRing c, c_M_isLump c, c_M_in, in_c, nI_leI, nI_ltI, nI_eq, N_z, nI_add, pk_sub, pk_mul, kL_i, kL_r, kL_d, kL_l, kL_k, kL_f, Option.toList_some, Option.toList_none, List.cons_append, List.nil_append, bI_z, N_and, N_or, N_shl, N_shr, Nat.one_mul, Nat.reduceAdd, lg_cmp_eq, L_and, L_or, bI_1, bI_0, if_true, if_false, reduceIte, N_m1x, ite_not, Qi, ite_not, ita]
  refine itc (fun h1 => itc (fun h2 => itc (fun h3 => itc (fun h4 => ?_))))
  obtain ⟨l, hl, rfl⟩ := inR_n h1 (by omega)
  obtain ⟨r, hr, rfl⟩ := inR_n h2 (by omega)
  obtain ⟨t, ht, rfl⟩ := inR_n h3 (by omega)
  obtain ⟨u, hu, rfl⟩ := inR_n h4 (by omega)
  simp only [nn_n (show l < 2147483648 by omega), nn_n (show r < 2147483648 by omega), nn_n (show t < 2147483648 by omega), nn_n (show u < 2147483648 by omega)]
  simp (disch := first | assumption | omega) only [↓s_M_cells_38, ↓s_M_cells_39, ↓s_M_cells_40, ↓s_M_cells_41, ↓s_M_cells_42, ↓s_M_cells_45, ↓s_M_cells_48, ↓s_M_cells_49, ↓s_M_cells_50, ↓s_M_cells_51, ↓s_M_cells_52, ↓s_M_cells_54, ↓s_M_cells_57, ↓s_M_cells_60, ↓s_M_cells_62, c_M_canBe c, nI_leI, nI_ltI, nI_eq, N_z, nI_add, pk_sub, pk_mul, kL_i, kL_r, kL_d, kL_l, kL_k, kL_f, Option.toList_some, Option.toList_none, List.cons_append, List.nil_append, bI_z, N_and, N_or, N_shl, N_shr, Nat.one_mul, Nat.reduceAdd, lg_cmp_eq, L_and, L_or, bI_1, bI_0, if_true, if_false, reduceIte, N_m1x, ite_not, Qi, ite_not]
  refine itc (fun h5 => ?_)
  rcases (show u = 0 ∨ u = 1 by omega) with rfl | rfl
  · rw [c_M_cellsOf0 c hl hr ht]
    simp only [↓s_M_cells_57, ↓s_M_cells_60, ↓s_M_cells_62, nI_leI, nI_ltI, nI_eq, N_z, nI_add, pk_sub, pk_mul, kL_i, kL_r, kL_d, kL_l, kL_k, kL_f, Option.toList_some, Option.toList_none, List.cons_append, List.nil_append, bI_z, N_and, N_or, N_shl, N_shr, Nat.one_mul, Nat.reduceAdd, lg_cmp_eq, L_and, L_or, bI_1, bI_0, if_true, if_false, reduceIte, N_m1x, ite_not]
  · rw [c_M_cellsOf1 c hl hr ht (cb_eq.mp h5).1]
    simp only [↓s_M_cells_57, ↓s_M_cells_60, ↓s_M_cells_62, nI_leI, nI_ltI, nI_eq, N_z, nI_add, pk_sub, pk_mul, kL_i, kL_r, kL_d, kL_l, kL_k, kL_f, Option.toList_some, Option.toList_none, List.cons_append, List.nil_append, bI_z, N_and, N_or, N_shl, N_shr, Nat.one_mul, Nat.reduceAdd, lg_cmp_eq, L_and, L_or, bI_1, bI_0, if_true, if_false, reduceIte, N_m1x, ite_not]
    rw [if_neg (by omega)]
/-- earlier -/
def aEarlier (σ : ST) (a1 a2 a3 a4 a5 : Int32) : Int32 := if inR a1 (σ 2 0) ∧ inR a2 (σ 11 0) ∧ inR a4 (σ 11 0) ∧ ¬ a2 = a4 ∧ inR a3 4 ∧ inR a5 4 then (if cb σ (nn a2) (nn a1) (nn a3) ∧ cb σ (nn a4) (nn a1) (nn a5) then (if wh σ (nn a2) (nn a3) &&& ch σ (nn a4) (nn a1) (nn a5) = 0 then nI 0 else nI 1) else -3) else -2
theorem p_C_earlier (c : C0 σ g hj) : cwp X (d + 4) m_C_earlier [.ref 0, .int a1, .int a2, .int a3, .int a4, .int a5] (HP g hj) Q = Q (some (.int (aEarlier σ a1 a2 a3 a4 a5))) (HP g hj) := by
  have w := c.1.2.2.2.1.1
  have w2 := c.1.2.1.1
  unfold aEarlier
  simp only [e_C_earlier, ↓s_C_earlier_0, ↓s_C_earlier_1, ↓s_C_earlier_2, ↓s_C_earlier_5, ↓s_C_earlier_8, ↓s_C_earlier_9, ↓s_C_earlier_10, ↓s_C_earlier_13, ↓s_C_earlier_16, ↓s_C_earlier_17, ↓s_C_earlier_19, ↓s_C_earlier_22, ↓s_C_earlier_25, ↓s_C_earlier_26, ↓s_C_earlier_28, ↓s_C_earlier_31, ↓s_C_earlier_33, ↓s_C_earlier_34, ↓s_C_earlier_35, ↓s_C_earlier_36, ↓s_C_earlier_39, ↓s_C_earlier_42, ↓s_C_earlier_44, ↓s_C_earlier_45, ↓s_C_earlier_48, ↓s_C_earlier_51, ↓s_C_earlier_53, c_C_isRing c, c_C_isLump c, c_C_isBelowN, nI_leI, nI_ltI, nI_eq, N_z, nI_add, pk_sub, pk_mul, kL_i, kL_r, kL_d, kL_l, kL_k, kL_f, Option.toList_some, Option.toList_none, List.cons_append, List.nil_append, bI_z, N_and, N_or, N_shl, N_shr, Nat.one_mul, Nat.reduceAdd, lg_cmp_eq, L_and, L_or, bI_1, bI_0, if_true, if_false, reduceIte, N_m1x, ite_not, Qi, ite_not, ita]
  refine itc (fun h1 => itc (fun h2 => itc (fun h3 => ?_)))
  by_cases h4 : a2 = a4
  · rw [if_pos h4, if_pos h4]
  rw [if_neg h4, if_neg h4]
  refine itc (fun h5 => itc (fun h6 => ?_))
  obtain ⟨r, hr, rfl⟩ := inR_n h1 (by omega)
  obtain ⟨l, hl, rfl⟩ := inR_n h2 (by omega)
  obtain ⟨k, hk, rfl⟩ := inR_n h3 (by omega)
  obtain ⟨t, ht, rfl⟩ := inR_n h5 (by omega)
  obtain ⟨u, hu, rfl⟩ := inR_n h6 (by omega)
  have q1 := ch_lt (σ := σ) k r u
  have q2 : wh σ l t &&& ch σ k r u ≤ ch σ k r u := Nat.and_le_right
  simp only [nn_n (show l < 2147483648 by omega), nn_n (show r < 2147483648 by omega), nn_n (show t < 2147483648 by omega), nn_n (show u < 2147483648 by omega), nn_n (show k < 2147483648 by omega)]
  simp (disch := first | assumption | omega) only [↓s_C_earlier_54, ↓s_C_earlier_55, ↓s_C_earlier_58, ↓s_C_earlier_59, ↓s_C_earlier_60, ↓s_C_earlier_61, ↓s_C_earlier_64, ↓s_C_earlier_67, ↓s_C_earlier_68, ↓s_C_earlier_71, ↓s_C_earlier_73, ↓s_C_earlier_74, ↓s_C_earlier_76, ↓s_C_earlier_79, ↓s_C_earlier_82, ↓s_C_earlier_84, ↓s_C_earlier_85, ↓s_C_earlier_86, ↓s_C_earlier_89, ↓s_C_earlier_90, ↓s_C_earlier_91, ↓s_C_earlier_94, ↓s_C_earlier_95, ↓s_C_earlier_98, ↓s_C_earlier_100, ↓s_C_earlier_101, ↓s_C_earlier_103, ↓s_C_earlier_106, ↓s_C_earlier_107, ↓s_C_earlier_110, ↓s_C_earlier_111, ↓s_C_earlier_114, ↓s_C_earlier_115, c_Matches_canBe c, c_Matches_chipped c, c_Matches_whole c, nI_leI, nI_ltI, nI_eq, N_z, nI_add, pk_sub, pk_mul, kL_i, kL_r, kL_d, kL_l, kL_k, kL_f, Option.toList_some, Option.toList_none, List.cons_append, List.nil_append, bI_z, N_and, N_or, N_shl, N_shr, Nat.one_mul, Nat.reduceAdd, lg_cmp_eq, L_and, L_or, bI_1, bI_0, if_true, if_false, reduceIte, N_m1x, ite_not, Qi, ite_not]
theorem p_M_earlier (c : M0 σ g hj) : cwp X (d + 4) m_M_earlier [.ref 51, .int a1, .int a2, .int a3, .int a4, .int a5] (HP g hj) Q = Q (some (.int (aEarlier σ a1 a2 a3 a4 a5))) (HP g hj) := by
  have w := c.1.2.2.2.1.1
  have w2 := c.1.2.1.1
  unfold aEarlier
  have hre : (inR a1 (σ 2 0) ∧ inR a2 (σ 11 0) ∧ inR a4 (σ 11 0) ∧ ¬ a2 = a4 ∧ inR a3 4 ∧ inR a5 4) = (inR a1 (σ 2 0) ∧ inR a2 (σ 11 0) ∧ inR a3 4 ∧ inR a4 (σ 11 0) ∧ inR a5 4 ∧ ¬ a2 = a4) := propext ⟨fun ⟨x1, x2, x3, x4, x5, x6⟩ => ⟨x1, x2, x5, x3, x6, x4⟩, fun ⟨x1, x2, x5, x3, x6, x4⟩ => ⟨x1, x2, x3, x4, x5, x6⟩⟩
  simp only [hre]
  simp (config := { maxSteps := 2000000 }) (disch := omega) only [e_M_earlier, ↓s_M_earlier_0, ↓s_M_earlier_1, ↓s_M_earlier_2, ↓s_M_earlier_5, ↓s_M_earlier_8, ↓s_M_earlier_9, ↓s_M_earlier_10, ↓s_M_earlier_13, ↓s_M_earlier_16, ↓s_M_earlier_17, ↓s_M_earlier_18, ↓s_M_earlier_19, ↓s_M_earlier_22, ↓s_M_earlier_25, ↓s_M_earlier_26, ↓s_M_earlier_28, ↓s_M_earlier_31, ↓s_M_earlier_34, ↓s_M_earlier_36, ↓s_M_earlier_37, ↓s_M_earlier_38, ↓s_M_earlier_41, ↓s_M_earlier_44, ↓s_M_earlier_45, ↓s_M_earlier_47, ↓s_M_earlier_50, ↓s_M_earlier_52, c_M_isRing c, c_M_isLump c, c_M_in, in_c, nI_leI, nI_ltI, nI_eq, N_z, nI_add, pk_sub, pk_mul, kL_i, kL_r, kL_d, kL_l, kL_k, kL_f, Option.toList_some, Option.toList_none, List.cons_append, List.nil_append, bI_z, N_and, N_or, N_shl, N_shr, Nat.one_mul, Nat.reduceAdd, lg_cmp_eq, L_and, L_or, bI_1, bI_0, if_true, if_false, reduceIte, N_m1x, ite_not, Qi, ite_not, ita]
  refine itc (fun h1 => itc (fun h2 => itc (fun h5 => itc (fun h3 => itc (fun h6 => ?_)))))
  by_cases h4 : a2 = a4
  · rw [if_pos h4, if_pos h4]
  rw [if_neg h4, if_neg h4]
  obtain ⟨r, hr, rfl⟩ := inR_n h1 (by omega)
  obtain ⟨l, hl, rfl⟩ := inR_n h2 (by omega)
  obtain ⟨k, hk, rfl⟩ := inR_n h3 (by omega)
  obtain ⟨t, ht, rfl⟩ := inR_n h5 (by omega)
  obtain ⟨u, hu, rfl⟩ := inR_n h6 (by omega)
  have q1 := ch_lt (σ := σ) k r u
  have q2 : wh σ l t &&& ch σ k r u ≤ ch σ k r u := Nat.and_le_right
  simp only [nn_n (show l < 2147483648 by omega), nn_n (show r < 2147483648 by omega), nn_n (show t < 2147483648 by omega), nn_n (show u < 2147483648 by omega), nn_n (show k < 2147483648 by omega)]
  simp (disch := first | assumption | omega) only [↓s_M_earlier_53, ↓s_M_earlier_54, ↓s_M_earlier_55, ↓s_M_earlier_56, ↓s_M_earlier_57, ↓s_M_earlier_60, ↓s_M_earlier_63, ↓s_M_earlier_64, ↓s_M_earlier_66, ↓s_M_earlier_67, ↓s_M_earlier_69, ↓s_M_earlier_72, ↓s_M_earlier_75, ↓s_M_earlier_77, c_M_canBe c, nI_leI, nI_ltI, nI_eq, N_z, nI_add, pk_sub, pk_mul, kL_i, kL_r, kL_d, kL_l, kL_k, kL_f, Option.toList_some, Option.toList_none, List.cons_append, List.nil_append, bI_z, N_and, N_or, N_shl, N_shr, Nat.one_mul, Nat.reduceAdd, lg_cmp_eq, L_and, L_or, bI_1, bI_0, if_true, if_false, reduceIte, N_m1x, ite_not, Qi, ite_not]
  refine itc (fun h7 => itc (fun h8 => ?_))
  simp only [↓s_M_earlier_78, ↓s_M_earlier_79, ↓s_M_earlier_80, ↓s_M_earlier_81, ↓s_M_earlier_82, ↓s_M_earlier_83]
  rw [c_M_cellsOf1 c hl hr ht (cb_eq.mp h7).1]
  simp only [↓s_M_earlier_86, ↓s_M_earlier_87, ↓s_M_earlier_89, ↓s_M_earlier_90, ↓s_M_earlier_92, ↓s_M_earlier_93, nI_leI, nI_ltI, nI_eq, N_z, nI_add, pk_sub, pk_mul, kL_i, kL_r, kL_d, kL_l, kL_k, kL_f, Option.toList_some, Option.toList_none, List.cons_append, List.nil_append, bI_z, N_and, N_or, N_shl, N_shr, Nat.one_mul, Nat.reduceAdd, lg_cmp_eq, L_and, L_or, bI_1, bI_0, if_true, if_false, reduceIte, N_m1x, ite_not]
  rw [c_M_cellsOf0 c hk hr hu]
  simp (disch := omega) only [↓s_M_earlier_96, ↓s_M_earlier_97, ↓s_M_earlier_100, ↓s_M_earlier_101, ↓s_M_earlier_104, ↓s_M_earlier_105, nI_leI, nI_ltI, nI_eq, N_z, nI_add, pk_sub, pk_mul, kL_i, kL_r, kL_d, kL_l, kL_k, kL_f, Option.toList_some, Option.toList_none, List.cons_append, List.nil_append, bI_z, N_and, N_or, N_shl, N_shr, Nat.one_mul, Nat.reduceAdd, lg_cmp_eq, L_and, L_or, bI_1, bI_0, if_true, if_false, reduceIte, N_m1x, ite_not]
end PUB1
