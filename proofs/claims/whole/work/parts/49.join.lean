/-! joined, near -/
def anyF (p : Nat → Bool) : Nat → Nat → Bool
  | 0, _ => false
  | n + 1, i => p i || anyF p n (i + 1)
def nrn (σ : ST) (a b : Nat) : Nat → Nat
  | 0 => 16
  | t + 1 => if pcn (σ 3 a ^^^ turn (σ 3 b) t) 16 < nrn σ a b t then pcn (σ 3 a ^^^ turn (σ 3 b) t) 16 else nrn σ a b t
theorem nrn_le (σ : ST) (a b : Nat) : ∀ t, nrn σ a b t ≤ 16
  | 0 => Nat.le_refl 16
  | t + 1 => by
    have := nrn_le σ a b t
    unfold nrn
    split <;> omega
theorem ite_N {c : Prop} [Decidable c] {a b : Nat} : (if c then nI a else nI b) = nI (if c then a else b) := by
  by_cases h : c
  · rw [if_pos h, if_pos h]
  · rw [if_neg h, if_neg h]
def joS (t : Nat → Nat) (n : Nat) (σ τ : ST) (a b : Int32) : SS := (t, n, σ, τ, if inR a (σ 11 0) ∧ inR b (σ 11 0) ∧ ¬ a = b then bI (jn σ (nn a) (nn b) = true) else -2)
def neS (t : Nat → Nat) (n : Nat) (σ τ : ST) (a b : Int32) : SS := (t, n, σ, τ, if inR a (σ 2 0) ∧ inR b (σ 2 0) ∧ ¬ a = b then nI (nrn σ (nn a) (nn b) 4) else -2)
section JOIN
variable {X : AX} {d : Nat} {Q : Option Value → AH → Prop} {g : Nat → Nat → Int32} {hj : Nat → Nat → Int64} {σ τ : ST} {a1 a2 : Int32} {t : Nat → Nat} {n a b : Nat}
theorem jn_F : jn σ a b = anyF (jnt σ a b) 4 0 := by
  simp only [jn, anyF, Bool.or_false, Bool.or_assoc, Nat.reduceAdd]
theorem jn_G : jn σ a b = anyF (fun t => jnt σ a b ((4 - t) % 4)) 4 0 := by
  simp only [jn, anyF, Bool.or_false, Nat.reduceAdd]
  show _ = (jnt σ a b 0 || (jnt σ a b 3 || (jnt σ a b 2 || jnt σ a b 1)))
  cases jnt σ a b 0 <;> cases jnt σ a b 1 <;> cases jnt σ a b 2 <;> cases jnt σ a b 3 <;> rfl
theorem l_canBeJoined (c : C0 σ g hj) (ha : a < σ 11 0) (hb : b < σ 11 0) : ∀ (m i : Nat) (v4 v5 v6 v7 v8 : Value), i + m = 4 → wp X d m_Lumps_canBeJoined 2 [.ref 10, .int (nI a), .int (nI b), .int (nI i), v4, v5, v6, v7, v8] [] (HP g hj) Q = Q (some (.int (bI (anyF (jnt σ a b) m i = true)))) (HP g hj)
  | 0, i, v4, v5, v6, v7, v8, hi => by
    have : i = 4 := by omega
    subst this
    rw [s_Lumps_canBeJoined_2]
    simp (disch := omega) only [↓s_Lumps_canBeJoined_3, ↓s_Lumps_canBeJoined_4, ↓s_Lumps_canBeJoined_159, ↓s_Lumps_canBeJoined_160_0, ↓s_Lumps_canBeJoined_160_1, ↓s_Lumps_canBeJoined_160_b, nI_leI, nI_ltI, nI_eq, N_z, nI_add, pk_sub, pk_mul, kL_i, kL_r, kL_d, kL_l, kL_k, kL_f, Option.toList_some, Option.toList_none, List.cons_append, List.nil_append, bI_z, N_and, N_or, N_shl, N_shr, Nat.one_mul, Nat.reduceAdd, lg_cmp_eq, L_and, L_or, bI_1, bI_0, if_true, if_false, reduceIte, N_m1x, ite_not, Nat.le_refl]
    rw [bI_f (by unfold anyF; decide)]
  | m + 1, i, v4, v5, v6, v7, v8, hi => by
    have w := c.1.2.2.2.1.1
    obtain ⟨f0, f1, f2, f3, f4⟩ := c.2.2.2.2.2 a ha
    obtain ⟨q0, q1, q2, q3, q4⟩ := c.2.2.2.2.2 b hb
    obtain ⟨x0, x1, x2, x3, x4, x5⟩ := c.1.2.2.2.1.2 a ha
    obtain ⟨y0, y1, y2, y3, y4, y5⟩ := c.1.2.2.2.1.2 b hb
    have e1 : g 11 (a * 4) = nI (σ 12 a) := (f0 0 (by omega)).1
    have e2 : g 12 (a * 4) = nI (nob σ a) := (f0 0 (by omega)).2
    obtain ⟨e3, e4⟩ := q0 i (by omega)
    have l1 : σ 12 a &&& bl σ b i ≤ σ 12 a := Nat.and_le_left
    have l2 : wh σ b i &&& nob σ a ≤ nob σ a := Nat.and_le_right
    have l3 := nob_lt σ a
    have e5 : anyF (jnt σ a b) (m + 1) i = (jnt σ a b i || anyF (jnt σ a b) m (i + 1)) := rfl
    have ih := fun v4 v5 v6 v7 v8 => l_canBeJoined c ha hb m (i + 1) v4 v5 v6 v7 v8 (by omega)
    have hT : jnt σ a b i = true → bI (anyF (jnt σ a b) (m + 1) i = true) = nI 1 := fun z => by rw [e5, z, Bool.true_or]; exact bI_t rfl
    have hF : jnt σ a b i = false → bI (anyF (jnt σ a b) (m + 1) i = true) = bI (anyF (jnt σ a b) m (i + 1) = true) := fun z => by rw [e5, z, Bool.false_or]
    rw [s_Lumps_canBeJoined_2]
    simp (disch := omega) only [↓s_Lumps_canBeJoined_3, ↓s_Lumps_canBeJoined_4, ↓s_Lumps_canBeJoined_7, ↓s_Lumps_canBeJoined_8, ↓s_Lumps_canBeJoined_11, ↓s_Lumps_canBeJoined_12, ↓s_Lumps_canBeJoined_13, ↓s_Lumps_canBeJoined_14, ↓s_Lumps_canBeJoined_15, ↓s_Lumps_canBeJoined_16, ↓s_Lumps_canBeJoined_19, ↓s_Lumps_canBeJoined_20, ↓s_Lumps_canBeJoined_21, ↓s_Lumps_canBeJoined_22, ↓s_Lumps_canBeJoined_23, ↓s_Lumps_canBeJoined_24, ↓s_Lumps_canBeJoined_25, ↓s_Lumps_canBeJoined_26, ↓s_Lumps_canBeJoined_29, ↓s_Lumps_canBeJoined_30, ↓s_Lumps_canBeJoined_33, ↓s_Lumps_canBeJoined_34, ↓s_Lumps_canBeJoined_36, ↓s_Lumps_canBeJoined_37, ↓s_Lumps_canBeJoined_40, ↓s_Lumps_canBeJoined_41, ↓s_Lumps_canBeJoined_42, ↓s_Lumps_canBeJoined_43, ↓s_Lumps_canBeJoined_44, ↓s_Lumps_canBeJoined_45, ↓s_Lumps_canBeJoined_46, ↓s_Lumps_canBeJoined_47, ↓s_Lumps_canBeJoined_50, ↓s_Lumps_canBeJoined_51, ↓s_Lumps_canBeJoined_52, ↓s_Lumps_canBeJoined_53, ↓s_Lumps_canBeJoined_54, ↓s_Lumps_canBeJoined_55, ↓s_Lumps_canBeJoined_58, ↓s_Lumps_canBeJoined_59, ↓s_Lumps_canBeJoined_62, ↓s_Lumps_canBeJoined_63, nI_leI, nI_ltI, nI_eq, N_z, nI_add, pk_sub, pk_mul, kL_i, kL_r, kL_d, kL_l, kL_k, kL_f, Option.toList_some, Option.toList_none, List.cons_append, List.nil_append, bI_z, N_and, N_or, N_shl, N_shr, Nat.one_mul, Nat.reduceAdd, lg_cmp_eq, L_and, L_or, bI_1, bI_0, if_true, if_false, reduceIte, N_m1x, ite_not, e1, e2, e3, e4]
    rw [if_neg (by omega)]
    by_cases hA : σ 12 a &&& bl σ b i = 0
    · by_cases hB : wh σ b i &&& nob σ a = 0
      · rw [if_pos hA, if_pos hB]
        simp (disch := omega) only [↓s_Lumps_canBeJoined_65, ↓s_Lumps_canBeJoined_67, ↓s_Lumps_canBeJoined_70, ↓s_Lumps_canBeJoined_72, ↓s_Lumps_canBeJoined_75, ↓s_Lumps_canBeJoined_76, ↓s_Lumps_canBeJoined_79, ↓s_Lumps_canBeJoined_80, ↓s_Lumps_canBeJoined_82, ↓s_Lumps_canBeJoined_84, ↓s_Lumps_canBeJoined_87, ↓s_Lumps_canBeJoined_88, ↓s_Lumps_canBeJoined_91, ↓s_Lumps_canBeJoined_92, ↓s_Lumps_canBeJoined_93, ↓s_Lumps_canBeJoined_94, ↓s_Lumps_canBeJoined_97, ↓s_Lumps_canBeJoined_98, ↓s_Lumps_canBeJoined_99, ↓s_Lumps_canBeJoined_102, ↓s_Lumps_canBeJoined_103, ↓s_Lumps_canBeJoined_106, ↓s_Lumps_canBeJoined_107, ↓s_Lumps_canBeJoined_109, ↓s_Lumps_canBeJoined_111, ↓s_Lumps_canBeJoined_114, ↓s_Lumps_canBeJoined_115, ↓s_Lumps_canBeJoined_118, ↓s_Lumps_canBeJoined_119, ↓s_Lumps_canBeJoined_120, ↓s_Lumps_canBeJoined_121, ↓s_Lumps_canBeJoined_124, ↓s_Lumps_canBeJoined_125, ↓s_Lumps_canBeJoined_126, ↓s_Lumps_canBeJoined_129, ↓s_Lumps_canBeJoined_130, ↓s_Lumps_canBeJoined_133, ↓s_Lumps_canBeJoined_134, ↓s_Lumps_canBeJoined_136, ↓s_Lumps_canBeJoined_138, ↓s_Lumps_canBeJoined_141, ↓s_Lumps_canBeJoined_143, ↓s_Lumps_canBeJoined_146, ↓s_Lumps_canBeJoined_148, ↓s_Lumps_canBeJoined_151, ↓s_Lumps_canBeJoined_152_0, ↓s_Lumps_canBeJoined_152_1, ↓s_Lumps_canBeJoined_152_b, ↓s_Lumps_canBeJoined_153, ↓s_Lumps_canBeJoined_156, nI_leI, nI_ltI, nI_eq, N_z, nI_add, pk_sub, pk_mul, kL_i, kL_r, kL_d, kL_l, kL_k, kL_f, Option.toList_some, Option.toList_none, List.cons_append, List.nil_append, bI_z, N_and, N_or, N_shl, N_shr, Nat.one_mul, Nat.reduceAdd, lg_cmp_eq, L_and, L_or, bI_1, bI_0, if_true, if_false, reduceIte, N_m1x, ite_not, Nat.one_ne_zero, Nat.zero_ne_one, eq_self, not_true_eq_false, not_false_eq_true, f2, f3, q2, q3]
        rw [hT (by unfold jnt; simp [hA, hB])]
      · rw [if_pos hA, if_neg hB]
        simp (disch := omega) only [↓s_Lumps_canBeJoined_65, ↓s_Lumps_canBeJoined_67, ↓s_Lumps_canBeJoined_70, ↓s_Lumps_canBeJoined_72, ↓s_Lumps_canBeJoined_75, ↓s_Lumps_canBeJoined_76, ↓s_Lumps_canBeJoined_79, ↓s_Lumps_canBeJoined_80, ↓s_Lumps_canBeJoined_82, ↓s_Lumps_canBeJoined_84, ↓s_Lumps_canBeJoined_87, ↓s_Lumps_canBeJoined_88, ↓s_Lumps_canBeJoined_91, ↓s_Lumps_canBeJoined_92, ↓s_Lumps_canBeJoined_93, ↓s_Lumps_canBeJoined_94, ↓s_Lumps_canBeJoined_97, ↓s_Lumps_canBeJoined_98, ↓s_Lumps_canBeJoined_99, ↓s_Lumps_canBeJoined_102, ↓s_Lumps_canBeJoined_103, ↓s_Lumps_canBeJoined_106, ↓s_Lumps_canBeJoined_107, ↓s_Lumps_canBeJoined_109, ↓s_Lumps_canBeJoined_111, ↓s_Lumps_canBeJoined_114, ↓s_Lumps_canBeJoined_115, ↓s_Lumps_canBeJoined_118, ↓s_Lumps_canBeJoined_119, ↓s_Lumps_canBeJoined_120, ↓s_Lumps_canBeJoined_121, ↓s_Lumps_canBeJoined_124, ↓s_Lumps_canBeJoined_125, ↓s_Lumps_canBeJoined_126, ↓s_Lumps_canBeJoined_129, ↓s_Lumps_canBeJoined_130, ↓s_Lumps_canBeJoined_133, ↓s_Lumps_canBeJoined_134, ↓s_Lumps_canBeJoined_136, ↓s_Lumps_canBeJoined_138, ↓s_Lumps_canBeJoined_141, ↓s_Lumps_canBeJoined_143, ↓s_Lumps_canBeJoined_146, ↓s_Lumps_canBeJoined_148, ↓s_Lumps_canBeJoined_151, ↓s_Lumps_canBeJoined_152_0, ↓s_Lumps_canBeJoined_152_1, ↓s_Lumps_canBeJoined_152_b, ↓s_Lumps_canBeJoined_153, ↓s_Lumps_canBeJoined_156, nI_leI, nI_ltI, nI_eq, N_z, nI_add, pk_sub, pk_mul, kL_i, kL_r, kL_d, kL_l, kL_k, kL_f, Option.toList_some, Option.toList_none, List.cons_append, List.nil_append, bI_z, N_and, N_or, N_shl, N_shr, Nat.one_mul, Nat.reduceAdd, lg_cmp_eq, L_and, L_or, bI_1, bI_0, if_true, if_false, reduceIte, N_m1x, ite_not, Nat.one_ne_zero, Nat.zero_ne_one, eq_self, not_true_eq_false, not_false_eq_true, f2, f3, q2, q3]
        by_cases hD : σ 14 b ≤ σ 15 a
        · rw [if_pos hD, hT (by unfold jnt; simp [hA, hB, hD])]
        · rw [if_neg hD, hF (by unfold jnt; simp [hA, hB, hD]), ih]
    · by_cases hB : wh σ b i &&& nob σ a = 0
      · rw [if_neg hA, if_pos hB]
        simp (disch := omega) only [↓s_Lumps_canBeJoined_65, ↓s_Lumps_canBeJoined_67, ↓s_Lumps_canBeJoined_70, ↓s_Lumps_canBeJoined_72, ↓s_Lumps_canBeJoined_75, ↓s_Lumps_canBeJoined_76, ↓s_Lumps_canBeJoined_79, ↓s_Lumps_canBeJoined_80, ↓s_Lumps_canBeJoined_82, ↓s_Lumps_canBeJoined_84, ↓s_Lumps_canBeJoined_87, ↓s_Lumps_canBeJoined_88, ↓s_Lumps_canBeJoined_91, ↓s_Lumps_canBeJoined_92, ↓s_Lumps_canBeJoined_93, ↓s_Lumps_canBeJoined_94, ↓s_Lumps_canBeJoined_97, ↓s_Lumps_canBeJoined_98, ↓s_Lumps_canBeJoined_99, ↓s_Lumps_canBeJoined_102, ↓s_Lumps_canBeJoined_103, ↓s_Lumps_canBeJoined_106, ↓s_Lumps_canBeJoined_107, ↓s_Lumps_canBeJoined_109, ↓s_Lumps_canBeJoined_111, ↓s_Lumps_canBeJoined_114, ↓s_Lumps_canBeJoined_115, ↓s_Lumps_canBeJoined_118, ↓s_Lumps_canBeJoined_119, ↓s_Lumps_canBeJoined_120, ↓s_Lumps_canBeJoined_121, ↓s_Lumps_canBeJoined_124, ↓s_Lumps_canBeJoined_125, ↓s_Lumps_canBeJoined_126, ↓s_Lumps_canBeJoined_129, ↓s_Lumps_canBeJoined_130, ↓s_Lumps_canBeJoined_133, ↓s_Lumps_canBeJoined_134, ↓s_Lumps_canBeJoined_136, ↓s_Lumps_canBeJoined_138, ↓s_Lumps_canBeJoined_141, ↓s_Lumps_canBeJoined_143, ↓s_Lumps_canBeJoined_146, ↓s_Lumps_canBeJoined_148, ↓s_Lumps_canBeJoined_151, ↓s_Lumps_canBeJoined_152_0, ↓s_Lumps_canBeJoined_152_1, ↓s_Lumps_canBeJoined_152_b, ↓s_Lumps_canBeJoined_153, ↓s_Lumps_canBeJoined_156, nI_leI, nI_ltI, nI_eq, N_z, nI_add, pk_sub, pk_mul, kL_i, kL_r, kL_d, kL_l, kL_k, kL_f, Option.toList_some, Option.toList_none, List.cons_append, List.nil_append, bI_z, N_and, N_or, N_shl, N_shr, Nat.one_mul, Nat.reduceAdd, lg_cmp_eq, L_and, L_or, bI_1, bI_0, if_true, if_false, reduceIte, N_m1x, ite_not, Nat.one_ne_zero, Nat.zero_ne_one, eq_self, not_true_eq_false, not_false_eq_true, f2, f3, q2, q3]
        by_cases hD : σ 14 a ≤ σ 15 b
        · rw [if_pos hD, hT (by unfold jnt; simp [hA, hB, hD])]
        · rw [if_neg hD, hF (by unfold jnt; simp [hA, hB, hD]), ih]
      · rw [if_neg hA, if_neg hB]
        simp (disch := omega) only [↓s_Lumps_canBeJoined_65, ↓s_Lumps_canBeJoined_67, ↓s_Lumps_canBeJoined_70, ↓s_Lumps_canBeJoined_72, ↓s_Lumps_canBeJoined_75, ↓s_Lumps_canBeJoined_76, ↓s_Lumps_canBeJoined_79, ↓s_Lumps_canBeJoined_80, ↓s_Lumps_canBeJoined_82, ↓s_Lumps_canBeJoined_84, ↓s_Lumps_canBeJoined_87, ↓s_Lumps_canBeJoined_88, ↓s_Lumps_canBeJoined_91, ↓s_Lumps_canBeJoined_92, ↓s_Lumps_canBeJoined_93, ↓s_Lumps_canBeJoined_94, ↓s_Lumps_canBeJoined_97, ↓s_Lumps_canBeJoined_98, ↓s_Lumps_canBeJoined_99, ↓s_Lumps_canBeJoined_102, ↓s_Lumps_canBeJoined_103, ↓s_Lumps_canBeJoined_106, ↓s_Lumps_canBeJoined_107, ↓s_Lumps_canBeJoined_109, ↓s_Lumps_canBeJoined_111, ↓s_Lumps_canBeJoined_114, ↓s_Lumps_canBeJoined_115, ↓s_Lumps_canBeJoined_118, ↓s_Lumps_canBeJoined_119, ↓s_Lumps_canBeJoined_120, ↓s_Lumps_canBeJoined_121, ↓s_Lumps_canBeJoined_124, ↓s_Lumps_canBeJoined_125, ↓s_Lumps_canBeJoined_126, ↓s_Lumps_canBeJoined_129, ↓s_Lumps_canBeJoined_130, ↓s_Lumps_canBeJoined_133, ↓s_Lumps_canBeJoined_134, ↓s_Lumps_canBeJoined_136, ↓s_Lumps_canBeJoined_138, ↓s_Lumps_canBeJoined_141, ↓s_Lumps_canBeJoined_143, ↓s_Lumps_canBeJoined_146, ↓s_Lumps_canBeJoined_148, ↓s_Lumps_canBeJoined_151, ↓s_Lumps_canBeJoined_152_0, ↓s_Lumps_canBeJoined_152_1, ↓s_Lumps_canBeJoined_152_b, ↓s_Lumps_canBeJoined_153, ↓s_Lumps_canBeJoined_156, nI_leI, nI_ltI, nI_eq, N_z, nI_add, pk_sub, pk_mul, kL_i, kL_r, kL_d, kL_l, kL_k, kL_f, Option.toList_some, Option.toList_none, List.cons_append, List.nil_append, bI_z, N_and, N_or, N_shl, N_shr, Nat.one_mul, Nat.reduceAdd, lg_cmp_eq, L_and, L_or, bI_1, bI_0, if_true, if_false, reduceIte, N_m1x, ite_not, Nat.one_ne_zero, Nat.zero_ne_one, eq_self, not_true_eq_false, not_false_eq_true, f2, f3, q2, q3, ih, ite_self]
        rw [hF (by unfold jnt; simp [hA, hB])]
theorem c_canBeJoined (c : C0 σ g hj) (ha : a < σ 11 0) (hb : b < σ 11 0) : cwp X d m_Lumps_canBeJoined [.ref 10, .int (nI a), .int (nI b)] (HP g hj) Q = Q (some (.int (bI (jn σ a b = true)))) (HP g hj) := by
  simp only [e_Lumps_canBeJoined, ↓s_Lumps_canBeJoined_0, ↓s_Lumps_canBeJoined_1, kL_i]
  rw [jn_F]
  exact l_canBeJoined c ha hb 4 0 _ _ _ _ _ rfl
theorem jm_1 {u : Nat} (w : WF σ) (ha : a < σ 11 0) (hb : b < σ 11 0) (hu : u < 4) : σ 12 a &&& (turn (σ 12 b) u ^^^ 4294967295) &&& (((σ 13 a ||| turn (σ 13 b) u) ^^^ 4294967295) &&& 65535) = σ 12 a &&& bl σ b ((4 - u) % 4) := by
  obtain ⟨x0, x1, x2, x3, x4, x5⟩ := w.2.2.2.1.2 a ha
  have hh : (4 - (4 - u) % 4) % 4 = u := by omega
  have e : bl σ b ((4 - u) % 4) = turn (nob σ b) u := by
    unfold bl
    rw [hh, turnR_turn (nob_lt σ b) hu]
  rw [e]
  refine eq16 (Nat.lt_of_le_of_lt (Nat.le_trans Nat.and_le_left Nat.and_le_left) x0) (Nat.lt_of_le_of_lt Nat.and_le_left x0) ?_
  intro i hi
  have z := and0.mp x2 i
  simp only [Nat.testBit_and, Nat.testBit_xor, Nat.testBit_or, turn_tb hu hi, tb_ff (show i < 32 by omega), tb_f16 hi, nob_tb (ic_lt u hi)]
  revert z
  cases (σ 12 a).testBit i <;> cases (σ 13 a).testBit i <;> cases (σ 12 b).testBit (ic i u) <;> cases (σ 13 b).testBit (ic i u) <;> simp
theorem jm_2 {u : Nat} (w : WF σ) (ha : a < σ 11 0) (hb : b < σ 11 0) (hu : u < 4) : turn (σ 12 b) u &&& (σ 12 a ^^^ 4294967295) &&& (((σ 13 a ||| turn (σ 13 b) u) ^^^ 4294967295) &&& 65535) = wh σ b ((4 - u) % 4) &&& nob σ a := by
  obtain ⟨x0, x1, x2, x3, x4, x5⟩ := w.2.2.2.1.2 b hb
  have hh : (4 - (4 - u) % 4) % 4 = u := by omega
  have e : wh σ b ((4 - u) % 4) = turn (σ 12 b) u := by
    unfold wh
    rw [hh, turnR_turn x0 hu]
  rw [e]
  have l := turn_lt (σ 12 b) u
  refine eq16 (Nat.lt_of_le_of_lt (Nat.le_trans Nat.and_le_left Nat.and_le_left) l) (Nat.lt_of_le_of_lt Nat.and_le_left l) ?_
  intro i hi
  have z := and0.mp x2 (ic i u)
  simp only [Nat.testBit_and, Nat.testBit_xor, Nat.testBit_or, turn_tb hu hi, tb_ff (show i < 32 by omega), tb_f16 hi, nob_tb hi]
  revert z
  cases (σ 12 a).testBit i <;> cases (σ 13 a).testBit i <;> cases (σ 12 b).testBit (ic i u) <;> cases (σ 13 b).testBit (ic i u) <;> simp
theorem l_M_joins (c : M0 σ g hj) (ha : a < σ 11 0) (hb : b < σ 11 0) : ∀ (m i : Nat) (v4 v5 v6 v7 : Value), i + m = 4 → wp X (d + 3) m_M_joins 2 [.ref 51, .int (nI a), .int (nI b), .int (nI i), v4, v5, v6, v7] [] (HP g hj) Q = Q (some (.int (bI (anyF (fun t => jnt σ a b ((4 - t) % 4)) m i = true)))) (HP g hj)
  | 0, i, v4, v5, v6, v7, hi => by
    have : i = 4 := by omega
    subst this
    rw [s_M_joins_2]
    simp (disch := omega) only [↓s_M_joins_3, ↓s_M_joins_4, ↓s_M_joins_150, ↓s_M_joins_151_0, ↓s_M_joins_151_1, ↓s_M_joins_151_b, nI_leI, nI_ltI, nI_eq, N_z, nI_add, pk_sub, pk_mul, kL_i, kL_r, kL_d, kL_l, kL_k, kL_f, Option.toList_some, Option.toList_none, List.cons_append, List.nil_append, bI_z, N_and, N_or, N_shl, N_shr, Nat.one_mul, Nat.reduceAdd, lg_cmp_eq, L_and, L_or, bI_1, bI_0, if_true, if_false, reduceIte, N_m1x, ite_not, Nat.le_refl]
    rw [bI_f (by unfold anyF; decide)]
  | m + 1, i, v4, v5, v6, v7, hi => by
    have w := c.1.2.2.2.1.1
    obtain ⟨f0, f1, f2, f3, f4⟩ := c.2.2.2.2.2 a ha
    obtain ⟨q0, q1, q2, q3, q4⟩ := c.2.2.2.2.2 b hb
    obtain ⟨x0, x1, x2, x3, x4, x5⟩ := c.1.2.2.2.1.2 a ha
    obtain ⟨y0, y1, y2, y3, y4, y5⟩ := c.1.2.2.2.1.2 b hb
    have l1 : σ 12 a &&& bl σ b ((4 - i) % 4) ≤ σ 12 a := Nat.and_le_left
    have l2 : wh σ b ((4 - i) % 4) &&& nob σ a ≤ nob σ a := Nat.and_le_right
    have l3 := nob_lt σ a
    have e5 : anyF (fun t => jnt σ a b ((4 - t) % 4)) (m + 1) i = (jnt σ a b ((4 - i) % 4) || anyF (fun t => jnt σ a b ((4 - t) % 4)) m (i + 1)) := rfl
    have ih := fun v4 v5 v6 v7 => l_M_joins c ha hb m (i + 1) v4 v5 v6 v7 (by omega)
    have hT : jnt σ a b ((4 - i) % 4) = true → bI (anyF (fun t => jnt σ a b ((4 - t) % 4)) (m + 1) i = true) = nI 1 := fun z => by rw [e5, z, Bool.true_or]; exact bI_t rfl
    have hF : jnt σ a b ((4 - i) % 4) = false → bI (anyF (fun t => jnt σ a b ((4 - t) % 4)) (m + 1) i = true) = bI (anyF (fun t => jnt σ a b ((4 - t) % 4)) m (i + 1) = true) := fun z => by rw [e5, z, Bool.false_or]
    rw [s_M_joins_2]
    simp (disch := omega) only [↓s_M_joins_3, ↓s_M_joins_4, ↓s_M_joins_7, ↓s_M_joins_8, ↓s_M_joins_11, ↓s_M_joins_12, ↓s_M_joins_13, ↓s_M_joins_14, ↓s_M_joins_17, ↓s_M_joins_19, ↓s_M_joins_20, ↓s_M_joins_23, ↓s_M_joins_24, ↓s_M_joins_25, ↓s_M_joins_26, ↓s_M_joins_29, ↓s_M_joins_30, ↓s_M_joins_31, ↓s_M_joins_32, ↓s_M_joins_35, ↓s_M_joins_36, ↓s_M_joins_37, ↓s_M_joins_38, ↓s_M_joins_41, ↓s_M_joins_42, ↓s_M_joins_44, ↓s_M_joins_45, ↓s_M_joins_48, ↓s_M_joins_49, ↓s_M_joins_50, ↓s_M_joins_52, ↓s_M_joins_53, ↓s_M_joins_54, ↓s_M_joins_55, ↓s_M_joins_57, nI_leI, nI_ltI, nI_eq, N_z, nI_add, pk_sub, pk_mul, kL_i, kL_r, kL_d, kL_l, kL_k, kL_f, Option.toList_some, Option.toList_none, List.cons_append, List.nil_append, bI_z, N_and, N_or, N_shl, N_shr, Nat.one_mul, Nat.reduceAdd, lg_cmp_eq, L_and, L_or, bI_1, bI_0, if_true, if_false, reduceIte, N_m1x, ite_not, c_M_turnedBits, f0, f1, q0, q1, jm_1 c.1 ha hb (show i < 4 by omega)]
    rw [if_neg (by omega)]
    have hM2 := jm_2 c.1 ha hb (show i < 4 by omega)
    simp (disch := omega) only [↓s_M_joins_58, ↓s_M_joins_61, ↓s_M_joins_62, ↓s_M_joins_65, ↓s_M_joins_66, ↓s_M_joins_68, ↓s_M_joins_70, ↓s_M_joins_71, ↓s_M_joins_74, ↓s_M_joins_75, ↓s_M_joins_76, ↓s_M_joins_77, ↓s_M_joins_78, ↓s_M_joins_79, ↓s_M_joins_81, ↓s_M_joins_82, ↓s_M_joins_85, ↓s_M_joins_86, ↓s_M_joins_89, ↓s_M_joins_90, nI_leI, nI_ltI, nI_eq, N_z, nI_add, pk_sub, pk_mul, kL_i, kL_r, kL_d, kL_l, kL_k, kL_f, Option.toList_some, Option.toList_none, List.cons_append, List.nil_append, bI_z, N_and, N_or, N_shl, N_shr, Nat.one_mul, Nat.reduceAdd, lg_cmp_eq, L_and, L_or, bI_1, bI_0, if_true, if_false, reduceIte, N_m1x, ite_not, hM2, f0]
    by_cases hA : σ 12 a &&& bl σ b ((4 - i) % 4) = 0
    · by_cases hB : wh σ b ((4 - i) % 4) &&& nob σ a = 0
      · rw [if_pos hA, if_pos hB]
        simp (disch := omega) only [↓s_M_joins_92, ↓s_M_joins_94, ↓s_M_joins_97, ↓s_M_joins_99, ↓s_M_joins_102, ↓s_M_joins_104, ↓s_M_joins_107, ↓s_M_joins_108, ↓s_M_joins_111, ↓s_M_joins_112, ↓s_M_joins_113, ↓s_M_joins_114, ↓s_M_joins_117, ↓s_M_joins_118, ↓s_M_joins_119, ↓s_M_joins_122, ↓s_M_joins_124, ↓s_M_joins_127, ↓s_M_joins_128, ↓s_M_joins_131, ↓s_M_joins_132, ↓s_M_joins_133, ↓s_M_joins_134, ↓s_M_joins_137, ↓s_M_joins_138, ↓s_M_joins_139, ↓s_M_joins_142, ↓s_M_joins_143_0, ↓s_M_joins_143_1, ↓s_M_joins_143_b, ↓s_M_joins_144, ↓s_M_joins_147, nI_leI, nI_ltI, nI_eq, N_z, nI_add, pk_sub, pk_mul, kL_i, kL_r, kL_d, kL_l, kL_k, kL_f, Option.toList_some, Option.toList_none, List.cons_append, List.nil_append, bI_z, N_and, N_or, N_shl, N_shr, Nat.one_mul, Nat.reduceAdd, lg_cmp_eq, L_and, L_or, bI_1, bI_0, if_true, if_false, reduceIte, N_m1x, ite_not, Nat.one_ne_zero, Nat.zero_ne_one, eq_self, not_true_eq_false, not_false_eq_true, f2, f3, q2, q3]
        rw [hT (by unfold jnt; simp [hA, hB])]
      · rw [if_pos hA, if_neg hB]
        simp (disch := omega) only [↓s_M_joins_92, ↓s_M_joins_94, ↓s_M_joins_97, ↓s_M_joins_99, ↓s_M_joins_102, ↓s_M_joins_104, ↓s_M_joins_107, ↓s_M_joins_108, ↓s_M_joins_111, ↓s_M_joins_112, ↓s_M_joins_113, ↓s_M_joins_114, ↓s_M_joins_117, ↓s_M_joins_118, ↓s_M_joins_119, ↓s_M_joins_122, ↓s_M_joins_124, ↓s_M_joins_127, ↓s_M_joins_128, ↓s_M_joins_131, ↓s_M_joins_132, ↓s_M_joins_133, ↓s_M_joins_134, ↓s_M_joins_137, ↓s_M_joins_138, ↓s_M_joins_139, ↓s_M_joins_142, ↓s_M_joins_143_0, ↓s_M_joins_143_1, ↓s_M_joins_143_b, ↓s_M_joins_144, ↓s_M_joins_147, nI_leI, nI_ltI, nI_eq, N_z, nI_add, pk_sub, pk_mul, kL_i, kL_r, kL_d, kL_l, kL_k, kL_f, Option.toList_some, Option.toList_none, List.cons_append, List.nil_append, bI_z, N_and, N_or, N_shl, N_shr, Nat.one_mul, Nat.reduceAdd, lg_cmp_eq, L_and, L_or, bI_1, bI_0, if_true, if_false, reduceIte, N_m1x, ite_not, Nat.one_ne_zero, Nat.zero_ne_one, eq_self, not_true_eq_false, not_false_eq_true, f2, f3, q2, q3]
        by_cases hD : σ 14 b ≤ σ 15 a
        · rw [if_neg (by omega), hT (by unfold jnt; simp [hA, hB, hD])]
        · rw [if_pos (by omega), hF (by unfold jnt; simp [hA, hB, hD]), ih]
    · by_cases hB : wh σ b ((4 - i) % 4) &&& nob σ a = 0
      · rw [if_neg hA, if_pos hB]
        simp (disch := omega) only [↓s_M_joins_92, ↓s_M_joins_94, ↓s_M_joins_97, ↓s_M_joins_99, ↓s_M_joins_102, ↓s_M_joins_104, ↓s_M_joins_107, ↓s_M_joins_108, ↓s_M_joins_111, ↓s_M_joins_112, ↓s_M_joins_113, ↓s_M_joins_114, ↓s_M_joins_117, ↓s_M_joins_118, ↓s_M_joins_119, ↓s_M_joins_122, ↓s_M_joins_124, ↓s_M_joins_127, ↓s_M_joins_128, ↓s_M_joins_131, ↓s_M_joins_132, ↓s_M_joins_133, ↓s_M_joins_134, ↓s_M_joins_137, ↓s_M_joins_138, ↓s_M_joins_139, ↓s_M_joins_142, ↓s_M_joins_143_0, ↓s_M_joins_143_1, ↓s_M_joins_143_b, ↓s_M_joins_144, ↓s_M_joins_147, nI_leI, nI_ltI, nI_eq, N_z, nI_add, pk_sub, pk_mul, kL_i, kL_r, kL_d, kL_l, kL_k, kL_f, Option.toList_some, Option.toList_none, List.cons_append, List.nil_append, bI_z, N_and, N_or, N_shl, N_shr, Nat.one_mul, Nat.reduceAdd, lg_cmp_eq, L_and, L_or, bI_1, bI_0, if_true, if_false, reduceIte, N_m1x, ite_not, Nat.one_ne_zero, Nat.zero_ne_one, eq_self, not_true_eq_false, not_false_eq_true, f2, f3, q2, q3]
        by_cases hD : σ 14 a ≤ σ 15 b
        · rw [if_neg (by omega), hT (by unfold jnt; simp [hA, hB, hD])]
        · rw [if_pos (by omega), hF (by unfold jnt; simp [hA, hB, hD]), ih]
      · rw [if_neg hA, if_neg hB]
        simp (disch := omega) only [↓s_M_joins_92, ↓s_M_joins_94, ↓s_M_joins_97, ↓s_M_joins_99, ↓s_M_joins_102, ↓s_M_joins_104, ↓s_M_joins_107, ↓s_M_joins_108, ↓s_M_joins_111, ↓s_M_joins_112, ↓s_M_joins_113, ↓s_M_joins_114, ↓s_M_joins_117, ↓s_M_joins_118, ↓s_M_joins_119, ↓s_M_joins_122, ↓s_M_joins_124, ↓s_M_joins_127, ↓s_M_joins_128, ↓s_M_joins_131, ↓s_M_joins_132, ↓s_M_joins_133, ↓s_M_joins_134, ↓s_M_joins_137, ↓s_M_joins_138, ↓s_M_joins_139, ↓s_M_joins_142, ↓s_M_joins_143_0, ↓s_M_joins_143_1, ↓s_M_joins_143_b, ↓s_M_joins_144, ↓s_M_joins_147, nI_leI, nI_ltI, nI_eq, N_z, nI_add, pk_sub, pk_mul, kL_i, kL_r, kL_d, kL_l, kL_k, kL_f, Option.toList_some, Option.toList_none, List.cons_append, List.nil_append, bI_z, N_and, N_or, N_shl, N_shr, Nat.one_mul, Nat.reduceAdd, lg_cmp_eq, L_and, L_or, bI_1, bI_0, if_true, if_false, reduceIte, N_m1x, ite_not, Nat.one_ne_zero, Nat.zero_ne_one, eq_self, not_true_eq_false, not_false_eq_true, f2, f3, q2, q3, ih, ite_self]
        rw [hF (by unfold jnt; simp [hA, hB])]
theorem c_M_joins (c : M0 σ g hj) (ha : a < σ 11 0) (hb : b < σ 11 0) : cwp X (d + 3) m_M_joins [.ref 51, .int (nI a), .int (nI b)] (HP g hj) Q = Q (some (.int (bI (jn σ a b = true)))) (HP g hj) := by
  simp only [e_M_joins, ↓s_M_joins_0, ↓s_M_joins_1, kL_i]
  rw [jn_G]
  exact l_M_joins c ha hb 4 0 _ _ _ _ rfl
theorem p_C_joined (c : CR t n σ τ g hj) (K : KC g hj Q (joS t n σ τ a1 a2)) : cwp X (d + 3) m_C_joined [.ref 0, .int a1, .int a2] (HP g hj) Q := by
  have w := c.2.1.1.2.2.2.1.1
  refine (?_ : _ = _).mpr (KC_0 c K)
  simp only [e_C_joined, ↓s_C_joined_0, ↓s_C_joined_1, ↓s_C_joined_2, ↓s_C_joined_5, ↓s_C_joined_8, ↓s_C_joined_9, ↓s_C_joined_10, ↓s_C_joined_13, ↓s_C_joined_16, ↓s_C_joined_17, ↓s_C_joined_18, ↓s_C_joined_21, ↓s_C_joined_23, c_C_isLump c.2.1, nI_leI, nI_ltI, nI_eq, N_z, nI_add, pk_sub, pk_mul, kL_i, kL_r, kL_d, kL_l, kL_k, kL_f, Option.toList_some, Option.toList_none, List.cons_append, List.nil_append, bI_z, N_and, N_or, N_shl, N_shr, Nat.one_mul, Nat.reduceAdd, lg_cmp_eq, L_and, L_or, bI_1, bI_0, if_true, if_false, reduceIte, N_m1x, ite_not, Qi, ita]
  refine itc (fun h1 => itc (fun h2 => ?_))
  by_cases h3 : a1 = a2
  · rw [if_pos h3, if_pos h3]
  rw [if_neg h3, if_neg h3]
  obtain ⟨x, hx, rfl⟩ := inR_n h1 (by omega)
  obtain ⟨y, hy, rfl⟩ := inR_n h2 (by omega)
  rw [nn_n (by omega), nn_n (by omega)]
  simp (disch := omega) only [↓s_C_joined_24, ↓s_C_joined_25, ↓s_C_joined_28, ↓s_C_joined_29, ↓s_C_joined_30, ↓s_C_joined_33, ↓s_C_joined_36, ↓s_C_joined_37, ↓s_C_joined_40, ↓s_C_joined_41, c_canBeJoined c.2.1, nI_leI, nI_ltI, nI_eq, N_z, nI_add, pk_sub, pk_mul, kL_i, kL_r, kL_d, kL_l, kL_k, kL_f, Option.toList_some, Option.toList_none, List.cons_append, List.nil_append, bI_z, N_and, N_or, N_shl, N_shr, Nat.one_mul, Nat.reduceAdd, lg_cmp_eq, L_and, L_or, bI_1, bI_0, if_true, if_false, reduceIte, N_m1x, ite_not]
  rw [ite_b (P := fun z => Q (some (.int z)) (HP g hj))]
theorem p_M_joined (c : MR t n σ τ g hj) (K : KM g hj Q (joS t n σ τ a1 a2)) : cwp X (d + 4) m_M_joined [.ref 51, .int a1, .int a2] (HP g hj) Q := by
  have w := c.2.1.1.2.2.2.1.1
  refine (?_ : _ = _).mpr (KM_0 c K)
  simp only [e_M_joined, ↓s_M_joined_0, ↓s_M_joined_1, ↓s_M_joined_2, ↓s_M_joined_5, ↓s_M_joined_8, ↓s_M_joined_9, ↓s_M_joined_10, ↓s_M_joined_13, ↓s_M_joined_16, ↓s_M_joined_17, ↓s_M_joined_18, ↓s_M_joined_38, ↓s_M_joined_40, c_M_isLump c.2.1, nI_leI, nI_ltI, nI_eq, N_z, nI_add, pk_sub, pk_mul, kL_i, kL_r, kL_d, kL_l, kL_k, kL_f, Option.toList_some, Option.toList_none, List.cons_append, List.nil_append, bI_z, N_and, N_or, N_shl, N_shr, Nat.one_mul, Nat.reduceAdd, lg_cmp_eq, L_and, L_or, bI_1, bI_0, if_true, if_false, reduceIte, N_m1x, ite_not, Qi, ita]
  refine itc (fun h1 => itc (fun h2 => ?_))
  by_cases h3 : a1 = a2
  · rw [if_pos h3, if_pos h3]
  rw [if_neg h3, if_neg h3]
  obtain ⟨x, hx, rfl⟩ := inR_n h1 (by omega)
  obtain ⟨y, hy, rfl⟩ := inR_n h2 (by omega)
  rw [nn_n (by omega), nn_n (by omega)]
  simp (disch := omega) only [↓s_M_joined_21, ↓s_M_joined_22, ↓s_M_joined_23, ↓s_M_joined_24, ↓s_M_joined_27, ↓s_M_joined_30, ↓s_M_joined_31, ↓s_M_joined_34, ↓s_M_joined_35, ↓s_M_joined_38, ↓s_M_joined_40, c_M_joins c.2.1, nI_leI, nI_ltI, nI_eq, N_z, nI_add, pk_sub, pk_mul, kL_i, kL_r, kL_d, kL_l, kL_k, kL_f, Option.toList_some, Option.toList_none, List.cons_append, List.nil_append, bI_z, N_and, N_or, N_shl, N_shr, Nat.one_mul, Nat.reduceAdd, lg_cmp_eq, L_and, L_or, bI_1, bI_0, if_true, if_false, reduceIte, N_m1x, ite_not]
  rw [ite_b (P := fun z => Q (some (.int z)) (HP g hj))]
theorem l_unlikeCells (c : C0 σ g hj) (ha : a < σ 2 0) (hb : b < σ 2 0) : ∀ (m i : Nat) (v5 : Value), i + m = 4 → wp X (d + 2) m_Rings_unlikeCells 6 [.ref 3, .int (nI a), .int (nI b), .int (nI (nrn σ a b i)), .int (nI i), v5] [] (HP g hj) Q = Q (some (.int (nI (nrn σ a b 4)))) (HP g hj)
  | 0, i, v5, hi => by
    have : i = 4 := by omega
    subst this
    rw [s_Rings_unlikeCells_6]
    simp (disch := omega) only [↓s_Rings_unlikeCells_8, ↓s_Rings_unlikeCells_9, ↓s_Rings_unlikeCells_48, ↓s_Rings_unlikeCells_49, nI_leI, nI_ltI, nI_eq, N_z, nI_add, pk_sub, pk_mul, kL_i, kL_r, kL_d, kL_l, kL_k, kL_f, Option.toList_some, Option.toList_none, List.cons_append, List.nil_append, bI_z, N_and, N_or, N_shl, N_shr, Nat.one_mul, Nat.reduceAdd, lg_cmp_eq, L_and, L_or, bI_1, bI_0, if_true, if_false, reduceIte, N_m1x, ite_not, Nat.le_refl]
  | m + 1, i, v5, hi => by
    have w := c.1.2.1.1
    have e1 := (c.2.1.2 a ha).1
    have e2 := (c.2.1.2 b hb).1
    have w1 := (c.1.2.1.2 a ha).1
    have w2 := (c.1.2.1.2 b hb).1
    have l1 := turn_lt (σ 3 b) i
    have l2 : σ 3 a ^^^ turn (σ 3 b) i < 65536 := Nat.xor_lt_two_pow (n := 16) w1 l1
    have l3 := nrn_le σ a b i
    have l4 := pcn_le (σ 3 a ^^^ turn (σ 3 b) i) 16
    have e3 : nrn σ a b (i + 1) = if pcn (σ 3 a ^^^ turn (σ 3 b) i) 16 < nrn σ a b i then pcn (σ 3 a ^^^ turn (σ 3 b) i) 16 else nrn σ a b i := rfl
    rw [s_Rings_unlikeCells_6]
    simp (disch := omega) only [↓s_Rings_unlikeCells_8, ↓s_Rings_unlikeCells_9, ↓s_Rings_unlikeCells_12, ↓s_Rings_unlikeCells_13, ↓s_Rings_unlikeCells_16, ↓s_Rings_unlikeCells_17, ↓s_Rings_unlikeCells_18, ↓s_Rings_unlikeCells_19, ↓s_Rings_unlikeCells_22, ↓s_Rings_unlikeCells_23, ↓s_Rings_unlikeCells_24, ↓s_Rings_unlikeCells_26, ↓s_Rings_unlikeCells_29, ↓s_Rings_unlikeCells_30, ↓s_Rings_unlikeCells_33, ↓s_Rings_unlikeCells_35, ↓s_Rings_unlikeCells_36, ↓s_Rings_unlikeCells_38, ↓s_Rings_unlikeCells_41, ↓s_Rings_unlikeCells_42, ↓s_Rings_unlikeCells_45, nI_leI, nI_ltI, nI_eq, N_z, nI_add, pk_sub, pk_mul, kL_i, kL_r, kL_d, kL_l, kL_k, kL_f, Option.toList_some, Option.toList_none, List.cons_append, List.nil_append, bI_z, N_and, N_or, N_shl, N_shr, Nat.one_mul, Nat.reduceAdd, lg_cmp_eq, L_and, L_or, bI_1, bI_0, if_true, if_false, reduceIte, N_m1x, ite_not, e1, e2, c_C_turnedRight, turnR_turn w2 (show i < 4 by omega), N_xor, c_JI_bitCount, ite_N, ← e3]
    rw [if_neg (by omega)]
    exact l_unlikeCells c ha hb m (i + 1) _ (by omega)
theorem c_unlikeCells (c : C0 σ g hj) (ha : a < σ 2 0) (hb : b < σ 2 0) : cwp X (d + 2) m_Rings_unlikeCells [.ref 3, .int (nI a), .int (nI b)] (HP g hj) Q = Q (some (.int (nI (nrn σ a b 4)))) (HP g hj) := by
  simp only [e_Rings_unlikeCells, ↓s_Rings_unlikeCells_0, ↓s_Rings_unlikeCells_2, ↓s_Rings_unlikeCells_3, ↓s_Rings_unlikeCells_4, kL_i, kL_d]
  exact l_unlikeCells c ha hb 4 0 _ rfl
theorem l_M_nearOf (c : M0 σ g hj) (ha : a < σ 2 0) (hb : b < σ 2 0) : ∀ (m i : Nat) (v5 : Value), i + m = 4 → wp X (d + 3) m_M_nearOf 6 [.ref 51, .int (nI a), .int (nI b), .int (nI (nrn σ a b i)), .int (nI i), v5] [] (HP g hj) Q = Q (some (.int (nI (nrn σ a b 4)))) (HP g hj)
  | 0, i, v5, hi => by
    have : i = 4 := by omega
    subst this
    rw [s_M_nearOf_6]
    simp (disch := omega) only [↓s_M_nearOf_8, ↓s_M_nearOf_9, ↓s_M_nearOf_54, ↓s_M_nearOf_55, nI_leI, nI_ltI, nI_eq, N_z, nI_add, pk_sub, pk_mul, kL_i, kL_r, kL_d, kL_l, kL_k, kL_f, Option.toList_some, Option.toList_none, List.cons_append, List.nil_append, bI_z, N_and, N_or, N_shl, N_shr, Nat.one_mul, Nat.reduceAdd, lg_cmp_eq, L_and, L_or, bI_1, bI_0, if_true, if_false, reduceIte, N_m1x, ite_not, Nat.le_refl]
  | m + 1, i, v5, hi => by
    have w := c.1.2.1.1
    have e1 := (c.2.1.2 a ha).1
    have e2 := (c.2.1.2 b hb).1
    have w1 := (c.1.2.1.2 a ha).1
    have w2 := (c.1.2.1.2 b hb).1
    have l1 := turn_lt (σ 3 b) i
    have l2 : σ 3 a ^^^ turn (σ 3 b) i < 65536 := Nat.xor_lt_two_pow (n := 16) w1 l1
    have l3 := nrn_le σ a b i
    have l4 := pcn_le (σ 3 a ^^^ turn (σ 3 b) i) 16
    have e3 : nrn σ a b (i + 1) = if pcn (σ 3 a ^^^ turn (σ 3 b) i) 16 < nrn σ a b i then pcn (σ 3 a ^^^ turn (σ 3 b) i) 16 else nrn σ a b i := rfl
    rw [s_M_nearOf_6]
    simp (disch := omega) only [↓s_M_nearOf_8, ↓s_M_nearOf_9, ↓s_M_nearOf_12, ↓s_M_nearOf_13, ↓s_M_nearOf_16, ↓s_M_nearOf_17, ↓s_M_nearOf_18, ↓s_M_nearOf_19, ↓s_M_nearOf_22, ↓s_M_nearOf_23, ↓s_M_nearOf_24, ↓s_M_nearOf_26, ↓s_M_nearOf_29, ↓s_M_nearOf_30, ↓s_M_nearOf_33, ↓s_M_nearOf_35, ↓s_M_nearOf_37, ↓s_M_nearOf_38, nI_leI, nI_ltI, nI_eq, N_z, nI_add, pk_sub, pk_mul, kL_i, kL_r, kL_d, kL_l, kL_k, kL_f, Option.toList_some, Option.toList_none, List.cons_append, List.nil_append, bI_z, N_and, N_or, N_shl, N_shr, Nat.one_mul, Nat.reduceAdd, lg_cmp_eq, L_and, L_or, bI_1, bI_0, if_true, if_false, reduceIte, N_m1x, ite_not, e1, e2, c_M_turnedBits, N_xor, c_M_onesOf]
    rw [if_neg (by omega)]
    by_cases h1 : pcn (σ 3 a ^^^ turn (σ 3 b) i) 16 < nrn σ a b i
    · rw [if_pos h1] at e3
      rw [if_neg (by omega)]
      simp (disch := omega) only [↓s_M_nearOf_41, ↓s_M_nearOf_43, ↓s_M_nearOf_46, ↓s_M_nearOf_47, ↓s_M_nearOf_48, ↓s_M_nearOf_51, nI_leI, nI_ltI, nI_eq, N_z, nI_add, pk_sub, pk_mul, kL_i, kL_r, kL_d, kL_l, kL_k, kL_f, Option.toList_some, Option.toList_none, List.cons_append, List.nil_append, bI_z, N_and, N_or, N_shl, N_shr, Nat.one_mul, Nat.reduceAdd, lg_cmp_eq, L_and, L_or, bI_1, bI_0, if_true, if_false, reduceIte, N_m1x, ite_not, ← e3]
      exact l_M_nearOf c ha hb m (i + 1) _ (by omega)
    · rw [if_neg h1] at e3
      rw [if_pos (by omega)]
      simp (disch := omega) only [↓s_M_nearOf_41, ↓s_M_nearOf_43, ↓s_M_nearOf_46, ↓s_M_nearOf_47, ↓s_M_nearOf_48, ↓s_M_nearOf_51, nI_leI, nI_ltI, nI_eq, N_z, nI_add, pk_sub, pk_mul, kL_i, kL_r, kL_d, kL_l, kL_k, kL_f, Option.toList_some, Option.toList_none, List.cons_append, List.nil_append, bI_z, N_and, N_or, N_shl, N_shr, Nat.one_mul, Nat.reduceAdd, lg_cmp_eq, L_and, L_or, bI_1, bI_0, if_true, if_false, reduceIte, N_m1x, ite_not, ← e3]
      exact l_M_nearOf c ha hb m (i + 1) _ (by omega)
theorem c_M_nearOf (c : M0 σ g hj) (ha : a < σ 2 0) (hb : b < σ 2 0) : cwp X (d + 3) m_M_nearOf [.ref 51, .int (nI a), .int (nI b)] (HP g hj) Q = Q (some (.int (nI (nrn σ a b 4)))) (HP g hj) := by
  simp only [e_M_nearOf, ↓s_M_nearOf_0, ↓s_M_nearOf_2, ↓s_M_nearOf_3, ↓s_M_nearOf_4, kL_i, kL_d]
  exact l_M_nearOf c ha hb 4 0 _ rfl
theorem p_C_near (c : CR t n σ τ g hj) (K : KC g hj Q (neS t n σ τ a1 a2)) : cwp X (d + 3) m_C_near [.ref 0, .int a1, .int a2] (HP g hj) Q := by
  have w := c.2.1.1.2.1.1
  refine (?_ : _ = _).mpr (KC_0 c K)
  simp only [e_C_near, ↓s_C_near_0, ↓s_C_near_1, ↓s_C_near_2, ↓s_C_near_5, ↓s_C_near_8, ↓s_C_near_9, ↓s_C_near_10, ↓s_C_near_13, ↓s_C_near_16, ↓s_C_near_17, ↓s_C_near_18, ↓s_C_near_21, ↓s_C_near_23, c_C_isRing c.2.1, nI_leI, nI_ltI, nI_eq, N_z, nI_add, pk_sub, pk_mul, kL_i, kL_r, kL_d, kL_l, kL_k, kL_f, Option.toList_some, Option.toList_none, List.cons_append, List.nil_append, bI_z, N_and, N_or, N_shl, N_shr, Nat.one_mul, Nat.reduceAdd, lg_cmp_eq, L_and, L_or, bI_1, bI_0, if_true, if_false, reduceIte, N_m1x, ite_not, Qi, ita]
  refine itc (fun h1 => itc (fun h2 => ?_))
  by_cases h3 : a1 = a2
  · rw [if_pos h3, if_pos h3]
  rw [if_neg h3, if_neg h3]
  obtain ⟨x, hx, rfl⟩ := inR_n h1 (by omega)
  obtain ⟨y, hy, rfl⟩ := inR_n h2 (by omega)
  rw [nn_n (by omega), nn_n (by omega)]
  simp (disch := omega) only [↓s_C_near_24, ↓s_C_near_25, ↓s_C_near_28, ↓s_C_near_29, ↓s_C_near_30, ↓s_C_near_33, c_unlikeCells c.2.1, nI_leI, nI_ltI, nI_eq, N_z, nI_add, pk_sub, pk_mul, kL_i, kL_r, kL_d, kL_l, kL_k, kL_f, Option.toList_some, Option.toList_none, List.cons_append, List.nil_append, bI_z, N_and, N_or, N_shl, N_shr, Nat.one_mul, Nat.reduceAdd, lg_cmp_eq, L_and, L_or, bI_1, bI_0, if_true, if_false, reduceIte, N_m1x, ite_not]
theorem p_M_near (c : MR t n σ τ g hj) (K : KM g hj Q (neS t n σ τ a1 a2)) : cwp X (d + 4) m_M_near [.ref 51, .int a1, .int a2] (HP g hj) Q := by
  have w := c.2.1.1.2.1.1
  refine (?_ : _ = _).mpr (KM_0 c K)
  simp only [e_M_near, ↓s_M_near_0, ↓s_M_near_1, ↓s_M_near_2, ↓s_M_near_5, ↓s_M_near_8, ↓s_M_near_9, ↓s_M_near_10, ↓s_M_near_13, ↓s_M_near_16, ↓s_M_near_17, ↓s_M_near_18, ↓s_M_near_30, ↓s_M_near_32, c_M_isRing c.2.1, nI_leI, nI_ltI, nI_eq, N_z, nI_add, pk_sub, pk_mul, kL_i, kL_r, kL_d, kL_l, kL_k, kL_f, Option.toList_some, Option.toList_none, List.cons_append, List.nil_append, bI_z, N_and, N_or, N_shl, N_shr, Nat.one_mul, Nat.reduceAdd, lg_cmp_eq, L_and, L_or, bI_1, bI_0, if_true, if_false, reduceIte, N_m1x, ite_not, Qi, ita]
  refine itc (fun h1 => itc (fun h2 => ?_))
  by_cases h3 : a1 = a2
  · rw [if_pos h3, if_pos h3]
  rw [if_neg h3, if_neg h3]
  obtain ⟨x, hx, rfl⟩ := inR_n h1 (by omega)
  obtain ⟨y, hy, rfl⟩ := inR_n h2 (by omega)
  rw [nn_n (by omega), nn_n (by omega)]
  simp (disch := omega) only [↓s_M_near_21, ↓s_M_near_22, ↓s_M_near_23, ↓s_M_near_24, ↓s_M_near_27, ↓s_M_near_30, ↓s_M_near_32, c_M_nearOf c.2.1, nI_leI, nI_ltI, nI_eq, N_z, nI_add, pk_sub, pk_mul, kL_i, kL_r, kL_d, kL_l, kL_k, kL_f, Option.toList_some, Option.toList_none, List.cons_append, List.nil_append, bI_z, N_and, N_or, N_shl, N_shr, Nat.one_mul, Nat.reduceAdd, lg_cmp_eq, L_and, L_or, bI_1, bI_0, if_true, if_false, reduceIte, N_m1x, ite_not]
end JOIN
