theorem ones_step (mk c k : Nat) : mk ||| (2 ^ (k + 1) - 1) * 2 ^ c = (mk ||| (2 ^ k - 1) * 2 ^ c) ||| 2 ^ (c + k) := by
  apply Nat.eq_of_testBit_eq
  intro i
  rw [Nat.testBit_or, Nat.testBit_or, Nat.testBit_or, Nat.testBit_mul_two_pow, Nat.testBit_mul_two_pow, Nat.testBit_two_pow_sub_one, Nat.testBit_two_pow_sub_one, Nat.testBit_two_pow]
  cases mk.testBit i
  · by_cases h1 : c ≤ i
    · by_cases h2 : i - c < k
      · simp [h1, h2, show i - c < k + 1 by omega]
      · by_cases h3 : c + k = i
        · simp [h1, h2, h3, show i - c < k + 1 by omega]
        · simp [h1, h2, h3, show ¬ i - c < k + 1 by omega]
    · simp [h1, show c + k ≠ i by omega]
  · simp
theorem shm_s (s mk c k : Nat) : shm s mk c (k + 1) = shm s mk c k ||| (if s = 35 then 2 ^ (c + k) else 0) := by
  unfold shm
  by_cases h : s = 35
  · simp only [h, if_true]; exact ones_step mk c k
  · simp [h]
theorem shu_s (s un c k : Nat) : shu s un c (k + 1) = shu s un c k ||| (if s = 63 then 2 ^ (c + k) else 0) := by
  unfold shu
  by_cases h : s = 63
  · simp only [h, if_true]; exact ones_step un c k
  · simp [h]
theorem shm_0 (s mk c : Nat) : shm s mk c 0 = mk := by simp [shm]
theorem shu_0 (s un c : Nat) : shu s un c 0 = un := by simp [shu]
section LINE3
variable {X : AX} {d : Nat} {Q : Option Value → AH → Prop} {hi g : Nat → Nat → Int32} {hj : Nat → Nat → Int64} {t : Nat → Nat} {n : Nat}
theorem c_M_byteAt {a : Nat} (hr : rdL g 51 0 52 t n) (ha : a < 100) : cwp X d m_M_byteAt [.ref 51, .int (nI a)] (HP g hj) Q = Q (some (.int (if a < n then nI (t a) else -1))) (HP g hj) := by
  obtain ⟨h1, h2, h3, h4⟩ := hr
  by_cases hl : a < n
  · have e := h3 a hl
    simp (disch := omega) only [e_M_byteAt, ↓s_M_byteAt_0, ↓s_M_byteAt_1, ↓s_M_byteAt_2, ↓s_M_byteAt_5, ↓s_M_byteAt_8, ↓s_M_byteAt_9, ↓s_M_byteAt_12, ↓s_M_byteAt_13, ↓s_M_byteAt_14, ↓s_M_byteAt_17, ↓s_M_byteAt_18, nI_leI, nI_ltI, nI_eq, N_z, nI_add, pk_sub, pk_mul, kL_i, kL_r, kL_d, kL_l, kL_k, kL_f, Option.toList_some, Option.toList_none, List.cons_append, List.nil_append, bI_z, N_and, N_or, N_shl, N_shr, Nat.one_mul, Nat.reduceAdd, h1, e]
    rw [if_neg (by omega), if_pos hl]
  · simp (disch := omega) only [e_M_byteAt, ↓s_M_byteAt_0, ↓s_M_byteAt_1, ↓s_M_byteAt_2, ↓s_M_byteAt_5, ↓s_M_byteAt_8, ↓s_M_byteAt_9, ↓s_M_byteAt_12, ↓s_M_byteAt_13, ↓s_M_byteAt_14, ↓s_M_byteAt_17, ↓s_M_byteAt_18, nI_leI, nI_ltI, nI_eq, N_z, nI_add, pk_sub, pk_mul, kL_i, kL_r, kL_d, kL_l, kL_k, kL_f, Option.toList_some, Option.toList_none, List.cons_append, List.nil_append, bI_z, N_and, N_or, N_shl, N_shr, Nat.one_mul, Nat.reduceAdd, h1]
    rw [if_pos (by omega), if_neg hl]
theorem c_M_isFigure {h : AH} {s : Nat} (hs : s < 256) : cwp X d m_M_isFigure [.int (nI s)] h Q = Q (some (.int (bI (48 ≤ s ∧ s ≤ 57)))) h := by
  simp (disch := omega) only [e_M_isFigure, ↓s_M_isFigure_0, ↓s_M_isFigure_1, ↓s_M_isFigure_3, ↓s_M_isFigure_6, ↓s_M_isFigure_7, ↓s_M_isFigure_9, ↓s_M_isFigure_12, ↓s_M_isFigure_13, ↓s_M_isFigure_16, ↓s_M_isFigure_17_0, ↓s_M_isFigure_17_1, ↓s_M_isFigure_17_b, nI_leI, nI_ltI, nI_eq, N_z, nI_add, pk_sub, pk_mul, kL_i, kL_r, kL_d, kL_l, kL_k, kL_f, Option.toList_some, Option.toList_none, List.cons_append, List.nil_append, bI_z, N_and, N_or, N_shl, N_shr, Nat.one_mul, Nat.reduceAdd]
  unfold bI
  by_cases g1 : s < 48
  · rw [if_pos g1, if_neg (fun z => by omega)]
  · rw [if_neg g1]
    by_cases g2 : 57 < s
    · rw [if_pos g2, if_neg (fun z => by omega)]
    · rw [if_neg g2, if_pos ⟨by omega, by omega⟩]
theorem c_M_isFigure1 {h : AH} : cwp X d m_M_isFigure [.int (-1)] h Q = Q (some (.int (nI 0))) h := by
  simp (disch := omega) only [e_M_isFigure, ↓s_M_isFigure_0, ↓s_M_isFigure_1, ↓s_M_isFigure_3, ↓s_M_isFigure_6, ↓s_M_isFigure_7, ↓s_M_isFigure_9, ↓s_M_isFigure_12, ↓s_M_isFigure_13, ↓s_M_isFigure_16, ↓s_M_isFigure_17_0, ↓s_M_isFigure_17_1, ↓s_M_isFigure_17_b]
  rw [if_pos (by decide)]
theorem c_M_figAt {a : Nat} (ht : ∀ i, t i < 256) : cwp X d m_M_isFigure [.int (if a < n then nI (t a) else -1)] (HP g hj) Q = Q (some (.int (bI (fg t n a)))) (HP g hj) := by
  by_cases hl : a < n
  · rw [if_pos hl, c_M_isFigure (ht a)]
    congr 3
    unfold bI fg
    by_cases h2 : 48 ≤ t a ∧ t a ≤ 57
    · rw [if_pos h2, if_pos ⟨hl, h2⟩]
    · rw [if_neg h2, if_neg (fun z => h2 z.2)]
  · rw [if_neg hl, c_M_isFigure1, bI_f (fun z => hl z.1)]
theorem l_M_faultNow_k {s c mk un p T : Nat} {P : Prop} (hs : s < 256) (hT : T ≤ 16) (hc : c + T ≤ 16) (hp : p < 100) (K : ∀ v5, wp X (d + 2) m_M_faultNow 14 [.ref 51, .int (nI (c + T)), .int (nI p), .int (nI s), .int (nI T), v5] [] (HP (G2 hi 51 2 3 (nI (shm s mk c T)) (nI (shu s un c T))) hj) Q = P) : ∀ (m k : Nat), k + m = T →
    wp X (d + 2) m_M_faultNow 158 [.ref 51, .int (nI (c + k)), .int (nI p), .int (nI s), .int (nI T), .int (nI k)] [] (HP (G2 hi 51 2 3 (nI (shm s mk c k)) (nI (shu s un c k))) hj) Q = P
  | 0, k, hk => by
    have : k = T := by omega
    subst this
    rw [s_M_faultNow_158]
    simp (disch := omega) only [↓s_M_faultNow_160, ↓s_M_faultNow_162, ↓s_M_faultNow_218, nI_leI, nI_ltI, nI_eq, N_z, nI_add, pk_sub, pk_mul, kL_i, kL_r, kL_d, kL_l, kL_k, kL_f, Option.toList_some, Option.toList_none, List.cons_append, List.nil_append, bI_z, N_and, N_or, N_shl, N_shr, Nat.one_mul, Nat.reduceAdd, Nat.le_refl, if_true]
    exact K _
  | m + 1, k, hk => by
    have e1 := shm_s s mk c k
    have e2 := shu_s s un c k
    rw [s_M_faultNow_158]
    by_cases h1 : s = 35
    · subst h1
      rw [if_pos rfl] at e1
      rw [if_neg (by omega), Nat.or_zero] at e2
      simp (disch := omega) only [↓s_M_faultNow_0, ↓s_M_faultNow_1, ↓s_M_faultNow_2, ↓s_M_faultNow_5, ↓s_M_faultNow_6, ↓s_M_faultNow_7, ↓s_M_faultNow_10, ↓s_M_faultNow_11, ↓s_M_faultNow_12, ↓s_M_faultNow_13, ↓s_M_faultNow_15, ↓s_M_faultNow_16, ↓s_M_faultNow_19, ↓s_M_faultNow_22, ↓s_M_faultNow_23, ↓s_M_faultNow_24, ↓s_M_faultNow_27, ↓s_M_faultNow_28, ↓s_M_faultNow_29, ↓s_M_faultNow_31, ↓s_M_faultNow_34, ↓s_M_faultNow_35, ↓s_M_faultNow_37, ↓s_M_faultNow_40, ↓s_M_faultNow_41, ↓s_M_faultNow_43, ↓s_M_faultNow_46, ↓s_M_faultNow_47, ↓s_M_faultNow_49, ↓s_M_faultNow_52, ↓s_M_faultNow_53, ↓s_M_faultNow_54, ↓s_M_faultNow_57, ↓s_M_faultNow_58, ↓s_M_faultNow_60, ↓s_M_faultNow_61, ↓s_M_faultNow_62, ↓s_M_faultNow_65, ↓s_M_faultNow_67, ↓s_M_faultNow_70, ↓s_M_faultNow_73, ↓s_M_faultNow_74, ↓s_M_faultNow_75, ↓s_M_faultNow_78, ↓s_M_faultNow_81, ↓s_M_faultNow_84, ↓s_M_faultNow_85, ↓s_M_faultNow_86, ↓s_M_faultNow_87, ↓s_M_faultNow_89, ↓s_M_faultNow_90, ↓s_M_faultNow_91, ↓s_M_faultNow_94, ↓s_M_faultNow_96, ↓s_M_faultNow_97, ↓s_M_faultNow_99, ↓s_M_faultNow_102, ↓s_M_faultNow_103, ↓s_M_faultNow_104, ↓s_M_faultNow_107, ↓s_M_faultNow_110, ↓s_M_faultNow_113, ↓s_M_faultNow_115, ↓s_M_faultNow_117, ↓s_M_faultNow_118, ↓s_M_faultNow_119, ↓s_M_faultNow_120, ↓s_M_faultNow_123, ↓s_M_faultNow_124, ↓s_M_faultNow_126, ↓s_M_faultNow_127, ↓s_M_faultNow_129, ↓s_M_faultNow_132, ↓s_M_faultNow_134, ↓s_M_faultNow_135, ↓s_M_faultNow_137, ↓s_M_faultNow_140, ↓s_M_faultNow_143, ↓s_M_faultNow_144, ↓s_M_faultNow_146, ↓s_M_faultNow_147, ↓s_M_faultNow_149, ↓s_M_faultNow_152, ↓s_M_faultNow_154, ↓s_M_faultNow_155, ↓s_M_faultNow_156, ↓s_M_faultNow_160, ↓s_M_faultNow_162, ↓s_M_faultNow_165, ↓s_M_faultNow_166, ↓s_M_faultNow_167, ↓s_M_faultNow_170, ↓s_M_faultNow_171, ↓s_M_faultNow_173, ↓s_M_faultNow_176, ↓s_M_faultNow_177, ↓s_M_faultNow_178, ↓s_M_faultNow_179, ↓s_M_faultNow_182, ↓s_M_faultNow_183, ↓s_M_faultNow_184, ↓s_M_faultNow_187, ↓s_M_faultNow_188, ↓s_M_faultNow_189, ↓s_M_faultNow_192, ↓s_M_faultNow_193, ↓s_M_faultNow_195, ↓s_M_faultNow_198, ↓s_M_faultNow_199, ↓s_M_faultNow_200, ↓s_M_faultNow_201, ↓s_M_faultNow_204, ↓s_M_faultNow_205, ↓s_M_faultNow_206, ↓s_M_faultNow_209, ↓s_M_faultNow_212, ↓s_M_faultNow_215, ↓s_M_faultNow_218, ↓s_M_faultNow_221, ↓s_M_faultNow_222, ↓s_M_faultNow_224, ↓s_M_faultNow_227, ↓s_M_faultNow_228, ↓s_M_faultNow_231, ↓s_M_faultNow_232, nI_leI, nI_ltI, nI_eq, N_z, nI_add, pk_sub, pk_mul, kL_i, kL_r, kL_d, kL_l, kL_k, kL_f, Option.toList_some, Option.toList_none, List.cons_append, List.nil_append, bI_z, N_and, N_or, N_shl, N_shr, Nat.one_mul, Nat.reduceAdd, G2_i, G2_j, G2_ui, G2_uj]
      rw [if_neg (by omega), if_neg (by simp), if_pos (show ¬ (35 = 63) by omega), Nat.or_zero]
      rw [← e1, ← e2, Nat.add_assoc]
      exact l_M_faultNow_k hs hT hc hp K m (k + 1) (by omega)
    · by_cases h2 : s = 63
      · subst h2
        rw [if_neg (by omega), Nat.or_zero] at e1
        rw [if_pos rfl] at e2
        simp (disch := omega) only [↓s_M_faultNow_0, ↓s_M_faultNow_1, ↓s_M_faultNow_2, ↓s_M_faultNow_5, ↓s_M_faultNow_6, ↓s_M_faultNow_7, ↓s_M_faultNow_10, ↓s_M_faultNow_11, ↓s_M_faultNow_12, ↓s_M_faultNow_13, ↓s_M_faultNow_15, ↓s_M_faultNow_16, ↓s_M_faultNow_19, ↓s_M_faultNow_22, ↓s_M_faultNow_23, ↓s_M_faultNow_24, ↓s_M_faultNow_27, ↓s_M_faultNow_28, ↓s_M_faultNow_29, ↓s_M_faultNow_31, ↓s_M_faultNow_34, ↓s_M_faultNow_35, ↓s_M_faultNow_37, ↓s_M_faultNow_40, ↓s_M_faultNow_41, ↓s_M_faultNow_43, ↓s_M_faultNow_46, ↓s_M_faultNow_47, ↓s_M_faultNow_49, ↓s_M_faultNow_52, ↓s_M_faultNow_53, ↓s_M_faultNow_54, ↓s_M_faultNow_57, ↓s_M_faultNow_58, ↓s_M_faultNow_60, ↓s_M_faultNow_61, ↓s_M_faultNow_62, ↓s_M_faultNow_65, ↓s_M_faultNow_67, ↓s_M_faultNow_70, ↓s_M_faultNow_73, ↓s_M_faultNow_74, ↓s_M_faultNow_75, ↓s_M_faultNow_78, ↓s_M_faultNow_81, ↓s_M_faultNow_84, ↓s_M_faultNow_85, ↓s_M_faultNow_86, ↓s_M_faultNow_87, ↓s_M_faultNow_89, ↓s_M_faultNow_90, ↓s_M_faultNow_91, ↓s_M_faultNow_94, ↓s_M_faultNow_96, ↓s_M_faultNow_97, ↓s_M_faultNow_99, ↓s_M_faultNow_102, ↓s_M_faultNow_103, ↓s_M_faultNow_104, ↓s_M_faultNow_107, ↓s_M_faultNow_110, ↓s_M_faultNow_113, ↓s_M_faultNow_115, ↓s_M_faultNow_117, ↓s_M_faultNow_118, ↓s_M_faultNow_119, ↓s_M_faultNow_120, ↓s_M_faultNow_123, ↓s_M_faultNow_124, ↓s_M_faultNow_126, ↓s_M_faultNow_127, ↓s_M_faultNow_129, ↓s_M_faultNow_132, ↓s_M_faultNow_134, ↓s_M_faultNow_135, ↓s_M_faultNow_137, ↓s_M_faultNow_140, ↓s_M_faultNow_143, ↓s_M_faultNow_144, ↓s_M_faultNow_146, ↓s_M_faultNow_147, ↓s_M_faultNow_149, ↓s_M_faultNow_152, ↓s_M_faultNow_154, ↓s_M_faultNow_155, ↓s_M_faultNow_156, ↓s_M_faultNow_160, ↓s_M_faultNow_162, ↓s_M_faultNow_165, ↓s_M_faultNow_166, ↓s_M_faultNow_167, ↓s_M_faultNow_170, ↓s_M_faultNow_171, ↓s_M_faultNow_173, ↓s_M_faultNow_176, ↓s_M_faultNow_177, ↓s_M_faultNow_178, ↓s_M_faultNow_179, ↓s_M_faultNow_182, ↓s_M_faultNow_183, ↓s_M_faultNow_184, ↓s_M_faultNow_187, ↓s_M_faultNow_188, ↓s_M_faultNow_189, ↓s_M_faultNow_192, ↓s_M_faultNow_193, ↓s_M_faultNow_195, ↓s_M_faultNow_198, ↓s_M_faultNow_199, ↓s_M_faultNow_200, ↓s_M_faultNow_201, ↓s_M_faultNow_204, ↓s_M_faultNow_205, ↓s_M_faultNow_206, ↓s_M_faultNow_209, ↓s_M_faultNow_212, ↓s_M_faultNow_215, ↓s_M_faultNow_218, ↓s_M_faultNow_221, ↓s_M_faultNow_222, ↓s_M_faultNow_224, ↓s_M_faultNow_227, ↓s_M_faultNow_228, ↓s_M_faultNow_231, ↓s_M_faultNow_232, nI_leI, nI_ltI, nI_eq, N_z, nI_add, pk_sub, pk_mul, kL_i, kL_r, kL_d, kL_l, kL_k, kL_f, Option.toList_some, Option.toList_none, List.cons_append, List.nil_append, bI_z, N_and, N_or, N_shl, N_shr, Nat.one_mul, Nat.reduceAdd, G2_i, G2_j, G2_ui, G2_uj]
        rw [if_neg (by omega), if_pos (by omega), if_neg (by simp), Nat.or_zero]
        rw [← e1, ← e2, Nat.add_assoc]
        exact l_M_faultNow_k hs hT hc hp K m (k + 1) (by omega)
      · rw [if_neg h1, Nat.or_zero] at e1
        rw [if_neg h2, Nat.or_zero] at e2
        simp (disch := omega) only [↓s_M_faultNow_0, ↓s_M_faultNow_1, ↓s_M_faultNow_2, ↓s_M_faultNow_5, ↓s_M_faultNow_6, ↓s_M_faultNow_7, ↓s_M_faultNow_10, ↓s_M_faultNow_11, ↓s_M_faultNow_12, ↓s_M_faultNow_13, ↓s_M_faultNow_15, ↓s_M_faultNow_16, ↓s_M_faultNow_19, ↓s_M_faultNow_22, ↓s_M_faultNow_23, ↓s_M_faultNow_24, ↓s_M_faultNow_27, ↓s_M_faultNow_28, ↓s_M_faultNow_29, ↓s_M_faultNow_31, ↓s_M_faultNow_34, ↓s_M_faultNow_35, ↓s_M_faultNow_37, ↓s_M_faultNow_40, ↓s_M_faultNow_41, ↓s_M_faultNow_43, ↓s_M_faultNow_46, ↓s_M_faultNow_47, ↓s_M_faultNow_49, ↓s_M_faultNow_52, ↓s_M_faultNow_53, ↓s_M_faultNow_54, ↓s_M_faultNow_57, ↓s_M_faultNow_58, ↓s_M_faultNow_60, ↓s_M_faultNow_61, ↓s_M_faultNow_62, ↓s_M_faultNow_65, ↓s_M_faultNow_67, ↓s_M_faultNow_70, ↓s_M_faultNow_73, ↓s_M_faultNow_74, ↓s_M_faultNow_75, ↓s_M_faultNow_78, ↓s_M_faultNow_81, ↓s_M_faultNow_84, ↓s_M_faultNow_85, ↓s_M_faultNow_86, ↓s_M_faultNow_87, ↓s_M_faultNow_89, ↓s_M_faultNow_90, ↓s_M_faultNow_91, ↓s_M_faultNow_94, ↓s_M_faultNow_96, ↓s_M_faultNow_97, ↓s_M_faultNow_99, ↓s_M_faultNow_102, ↓s_M_faultNow_103, ↓s_M_faultNow_104, ↓s_M_faultNow_107, ↓s_M_faultNow_110, ↓s_M_faultNow_113, ↓s_M_faultNow_115, ↓s_M_faultNow_117, ↓s_M_faultNow_118, ↓s_M_faultNow_119, ↓s_M_faultNow_120, ↓s_M_faultNow_123, ↓s_M_faultNow_124, ↓s_M_faultNow_126, ↓s_M_faultNow_127, ↓s_M_faultNow_129, ↓s_M_faultNow_132, ↓s_M_faultNow_134, ↓s_M_faultNow_135, ↓s_M_faultNow_137, ↓s_M_faultNow_140, ↓s_M_faultNow_143, ↓s_M_faultNow_144, ↓s_M_faultNow_146, ↓s_M_faultNow_147, ↓s_M_faultNow_149, ↓s_M_faultNow_152, ↓s_M_faultNow_154, ↓s_M_faultNow_155, ↓s_M_faultNow_156, ↓s_M_faultNow_160, ↓s_M_faultNow_162, ↓s_M_faultNow_165, ↓s_M_faultNow_166, ↓s_M_faultNow_167, ↓s_M_faultNow_170, ↓s_M_faultNow_171, ↓s_M_faultNow_173, ↓s_M_faultNow_176, ↓s_M_faultNow_177, ↓s_M_faultNow_178, ↓s_M_faultNow_179, ↓s_M_faultNow_182, ↓s_M_faultNow_183, ↓s_M_faultNow_184, ↓s_M_faultNow_187, ↓s_M_faultNow_188, ↓s_M_faultNow_189, ↓s_M_faultNow_192, ↓s_M_faultNow_193, ↓s_M_faultNow_195, ↓s_M_faultNow_198, ↓s_M_faultNow_199, ↓s_M_faultNow_200, ↓s_M_faultNow_201, ↓s_M_faultNow_204, ↓s_M_faultNow_205, ↓s_M_faultNow_206, ↓s_M_faultNow_209, ↓s_M_faultNow_212, ↓s_M_faultNow_215, ↓s_M_faultNow_218, ↓s_M_faultNow_221, ↓s_M_faultNow_222, ↓s_M_faultNow_224, ↓s_M_faultNow_227, ↓s_M_faultNow_228, ↓s_M_faultNow_231, ↓s_M_faultNow_232, nI_leI, nI_ltI, nI_eq, N_z, nI_add, pk_sub, pk_mul, kL_i, kL_r, kL_d, kL_l, kL_k, kL_f, Option.toList_some, Option.toList_none, List.cons_append, List.nil_append, bI_z, N_and, N_or, N_shl, N_shr, Nat.one_mul, Nat.reduceAdd, G2_i, G2_j, G2_ui, G2_uj]
        rw [if_neg (by omega), if_pos h1, if_pos h2, Nat.or_zero, Nat.or_zero]
        rw [← e1, ← e2, Nat.add_assoc]
        exact l_M_faultNow_k hs hT hc hp K m (k + 1) (by omega)
theorem l_M_faultNow (hr : rdL hi 51 0 52 t n) : ∀ (f p c mk un : Nat) (v3 v4 v5 : Value), n < p + f → p ≤ n → c ≤ 16 →
    wp X (d + 2) m_M_faultNow 14 [.ref 51, .int (nI c), .int (nI p), v3, v4, v5] [] (HP (G2 hi 51 2 3 (nI mk) (nI un)) hj) Q = Q (some (.int (scan t n f p c mk un).1)) (HP (G2 hi 51 2 3 (nI (scan t n f p c mk un).2.1) (nI (scan t n f p c mk un).2.2)) hj)
  | 0, p, c, mk, un, v3, v4, v5, h1, h2, h3 => by omega
  | f + 1, p, c, mk, un, v3, v4, v5, h1, h2, h3 => by
    have hr2 : rdL (G2 hi 51 2 3 (nI mk) (nI un)) 51 0 52 t n := rdL_G2 hr (by omega) (by omega) (by omega)
    obtain ⟨q1, q2, q3, q4⟩ := id hr2
    have b1 := q4 p
    have b2 := q4 (p + 1)
    have b3 := q4 (p + 2)
    have b4 := q4 (p + 3)
    rw [s_M_faultNow_14]
    unfold scan
    by_cases hp : n ≤ p
    · have hpn : p = n := by omega
      subst hpn
      simp (disch := omega) only [↓s_M_faultNow_15, ↓s_M_faultNow_16, ↓s_M_faultNow_19, ↓s_M_faultNow_221, ↓s_M_faultNow_222, ↓s_M_faultNow_224, ↓s_M_faultNow_227, ↓s_M_faultNow_228, ↓s_M_faultNow_231, ↓s_M_faultNow_232, nI_leI, nI_ltI, nI_eq, N_z, nI_add, pk_sub, pk_mul, kL_i, kL_r, kL_d, kL_l, kL_k, kL_f, Option.toList_some, Option.toList_none, List.cons_append, List.nil_append, bI_z, N_and, N_or, N_shl, N_shr, Nat.one_mul, Nat.reduceAdd, q1, Nat.le_refl, if_true]
      by_cases hc : 16 ≤ c
      · simp only [hc, if_true]
      · simp only [hc, if_false]
    · simp (disch := omega) only [↓s_M_faultNow_15, ↓s_M_faultNow_16, ↓s_M_faultNow_19, ↓s_M_faultNow_22, ↓s_M_faultNow_23, ↓s_M_faultNow_24, nI_leI, nI_ltI, nI_eq, N_z, nI_add, pk_sub, pk_mul, kL_i, kL_r, kL_d, kL_l, kL_k, kL_f, Option.toList_some, Option.toList_none, List.cons_append, List.nil_append, bI_z, N_and, N_or, N_shl, N_shr, Nat.one_mul, Nat.reduceAdd, q1, c_M_byteAt hr2]
      rw [if_neg hp, if_neg hp, if_pos (show p < n by omega)]
      simp (disch := omega) only [↓s_M_faultNow_27, ↓s_M_faultNow_28, ↓s_M_faultNow_29, ↓s_M_faultNow_31, ↓s_M_faultNow_34, ↓s_M_faultNow_35, ↓s_M_faultNow_37, ↓s_M_faultNow_40, ↓s_M_faultNow_41, ↓s_M_faultNow_43, ↓s_M_faultNow_46, ↓s_M_faultNow_47, ↓s_M_faultNow_49, ↓s_M_faultNow_52, ↓s_M_faultNow_53, nI_leI, nI_ltI, nI_eq, N_z, nI_add, pk_sub, pk_mul, kL_i, kL_r, kL_d, kL_l, kL_k, kL_f, Option.toList_some, Option.toList_none, List.cons_append, List.nil_append, bI_z, N_and, N_or, N_shl, N_shr, Nat.one_mul, Nat.reduceAdd]
      by_cases hs : t p = 35 ∨ t p = 46 ∨ t p = 63
      · have gate : ∀ A B : Prop, (if t p = 35 then (if ¬ c = 16 then A else B) else if t p = 46 then (if ¬ c = 16 then A else B) else if ¬ t p = 63 then B else (if ¬ c = 16 then A else B)) = (if ¬ c = 16 then A else B) := by
          intro A B
          by_cases z1 : t p = 35
          · simp only [z1, if_true]
          · by_cases z2 : t p = 46
            · rw [if_neg z1, if_pos z2]
            · have z3 : t p = 63 := by omega
              rw [if_neg z1, if_neg z2, if_neg (fun z => z z3)]
        rw [gate]
        by_cases hc : 16 ≤ c
        · rw [if_neg (by omega), if_pos (Or.inr hc)]
        · rw [if_pos (by omega), if_neg (by rintro (z | z); exact z hs; exact hc z)]
          simp (disch := omega) only [↓s_M_faultNow_54, ↓s_M_faultNow_57, ↓s_M_faultNow_58, ↓s_M_faultNow_60, ↓s_M_faultNow_61, ↓s_M_faultNow_62, nI_leI, nI_ltI, nI_eq, N_z, nI_add, pk_sub, pk_mul, kL_i, kL_r, kL_d, kL_l, kL_k, kL_f, Option.toList_some, Option.toList_none, List.cons_append, List.nil_append, bI_z, N_and, N_or, N_shl, N_shr, Nat.one_mul, Nat.reduceAdd, c_M_byteAt hr2]
          by_cases hst : p + 1 < n ∧ t (p + 1) = 42
          · rw [if_pos hst, if_pos hst.1]
            simp (disch := omega) only [↓s_M_faultNow_65, ↓s_M_faultNow_67, nI_leI, nI_ltI, nI_eq, N_z, nI_add, pk_sub, pk_mul, kL_i, kL_r, kL_d, kL_l, kL_k, kL_f, Option.toList_some, Option.toList_none, List.cons_append, List.nil_append, bI_z, N_and, N_or, N_shl, N_shr, Nat.one_mul, Nat.reduceAdd]
            rw [if_neg (fun z => z hst.2)]
            simp (disch := omega) only [↓s_M_faultNow_70, ↓s_M_faultNow_73, ↓s_M_faultNow_74, ↓s_M_faultNow_75, ↓s_M_faultNow_78, ↓s_M_faultNow_81, ↓s_M_faultNow_84, ↓s_M_faultNow_85, nI_leI, nI_ltI, nI_eq, N_z, nI_add, pk_sub, pk_mul, kL_i, kL_r, kL_d, kL_l, kL_k, kL_f, Option.toList_some, Option.toList_none, List.cons_append, List.nil_append, bI_z, N_and, N_or, N_shl, N_shr, Nat.one_mul, Nat.reduceAdd, c_M_byteAt hr2, c_M_figAt q4, Nat.add_assoc]
            by_cases hf : fg t n (p + 2)
            · rw [if_pos (fun z => z hf)]
              have z1 := hf.2
              have hdl := hf.1
              simp (disch := omega) only [↓s_M_faultNow_86, ↓s_M_faultNow_87, ↓s_M_faultNow_89, ↓s_M_faultNow_90, ↓s_M_faultNow_91, nI_leI, nI_ltI, nI_eq, N_z, nI_add, pk_sub, pk_mul, kL_i, kL_r, kL_d, kL_l, kL_k, kL_f, Option.toList_some, Option.toList_none, List.cons_append, List.nil_append, bI_z, N_and, N_or, N_shl, N_shr, Nat.one_mul, Nat.reduceAdd, c_M_byteAt hr2, Nat.add_assoc]
              rw [if_pos hf.1]
              simp (disch := omega) only [↓s_M_faultNow_94, ↓s_M_faultNow_96, ↓s_M_faultNow_97, ↓s_M_faultNow_99, ↓s_M_faultNow_102, ↓s_M_faultNow_103, ↓s_M_faultNow_104, ↓s_M_faultNow_107, ↓s_M_faultNow_110, nI_leI, nI_ltI, nI_eq, N_z, nI_add, pk_sub, pk_mul, kL_i, kL_r, kL_d, kL_l, kL_k, kL_f, Option.toList_some, Option.toList_none, List.cons_append, List.nil_append, bI_z, N_and, N_or, N_shl, N_shr, Nat.one_mul, Nat.reduceAdd, c_M_byteAt hr2, c_M_figAt q4, Nat.add_assoc]
              have fin : ∀ (N p2 : Nat), N < 1000 → p2 < 100 → p2 ≤ n → p + 2 < p2 → N = nmb t n (p + 2) → p2 = p + (2 + dgs t n (p + 2)) → wp X (d + 2) m_M_faultNow 132 [.ref 51, .int (nI c), .int (nI p2), .int (nI (t p)), .int (nI N), .int (nI (p + 2))] [] (HP (G2 hi 51 2 3 (nI mk) (nI un)) hj) Q = Q (some (.int (if fg t n (p + 2) ∧ 2 ≤ nmb t n (p + 2) ∧ nmb t n (p + 2) ≤ 16 - c then scan t n f (p + (2 + dgs t n (p + 2))) (c + nmb t n (p + 2)) (shm (t p) mk c (nmb t n (p + 2))) (shu (t p) un c (nmb t n (p + 2))) else (nI (p + 2), mk, un)).1)) (HP (G2 hi 51 2 3 (nI (if fg t n (p + 2) ∧ 2 ≤ nmb t n (p + 2) ∧ nmb t n (p + 2) ≤ 16 - c then scan t n f (p + (2 + dgs t n (p + 2))) (c + nmb t n (p + 2)) (shm (t p) mk c (nmb t n (p + 2))) (shu (t p) un c (nmb t n (p + 2))) else (nI (p + 2), mk, un)).2.1) (nI (if fg t n (p + 2) ∧ 2 ≤ nmb t n (p + 2) ∧ nmb t n (p + 2) ≤ 16 - c then scan t n f (p + (2 + dgs t n (p + 2))) (c + nmb t n (p + 2)) (shm (t p) mk c (nmb t n (p + 2))) (shu (t p) un c (nmb t n (p + 2))) else (nI (p + 2), mk, un)).2.2)) hj) := by
                intro N p2 hN hp2 hp2n hp3 eN eP
                rw [← eN, ← eP]
                simp (disch := omega) only [↓s_M_faultNow_132, ↓s_M_faultNow_134, ↓s_M_faultNow_135, ↓s_M_faultNow_137, ↓s_M_faultNow_140, ↓s_M_faultNow_143, ↓s_M_faultNow_144, ↓s_M_faultNow_146, ↓s_M_faultNow_147, ↓s_M_faultNow_149, ↓s_M_faultNow_152, ↓s_M_faultNow_154, nI_leI, nI_ltI, nI_eq, N_z, nI_add, pk_sub, pk_mul, kL_i, kL_r, kL_d, kL_l, kL_k, kL_f, Option.toList_some, Option.toList_none, List.cons_append, List.nil_append, bI_z, N_and, N_or, N_shl, N_shr, Nat.one_mul, Nat.reduceAdd, c_M_in]
                by_cases hin : 2 ≤ N ∧ N ≤ 16 - c
                · rw [if_neg (show ¬ ¬ (2 ≤ N ∧ N ≤ 16) from fun z => z ⟨by omega, by omega⟩), if_pos (show c + N ≤ 16 by omega), if_pos (show fg t n (p + 2) ∧ 2 ≤ N ∧ N ≤ 16 - c from ⟨hf, hin⟩)]
                  simp (disch := omega) only [↓s_M_faultNow_155, ↓s_M_faultNow_156, nI_leI, nI_ltI, nI_eq, N_z, nI_add, pk_sub, pk_mul, kL_i, kL_r, kL_d, kL_l, kL_k, kL_f, Option.toList_some, Option.toList_none, List.cons_append, List.nil_append, bI_z, N_and, N_or, N_shl, N_shr, Nat.one_mul, Nat.reduceAdd]
                  have := l_M_faultNow_k (X := X) (d := d) (Q := Q) (hi := hi) (hj := hj) (s := t p) (c := c) (mk := mk) (un := un) (p := p2) (T := N) (by omega) (by omega) (by omega) (by omega) (fun v5 => l_M_faultNow hr f p2 (c + N) (shm (t p) mk c N) (shu (t p) un c N) _ _ v5 (by omega) (by omega) (by omega)) N 0 (by omega)
                  rw [shm_0, shu_0, Nat.add_zero] at this
                  exact this
                · rw [if_neg (show ¬ (fg t n (p + 2) ∧ 2 ≤ N ∧ N ≤ 16 - c) from fun z => hin z.2)]
                  by_cases h2 : 2 ≤ N ∧ N ≤ 16
                  · rw [if_neg (show ¬ ¬ (2 ≤ N ∧ N ≤ 16) from fun z => z h2), if_neg (show ¬ c + N ≤ 16 by omega)]
                  · rw [if_pos (show ¬ (2 ≤ N ∧ N ≤ 16) from h2)]
              have hd : dgs t n (p + 2) = if fg t n (p + 3) then 2 else 1 := rfl
              have hnm : nmb t n (p + 2) = if fg t n (p + 3) then 10 * (t (p + 2) - 48) + (t (p + 3) - 48) else t (p + 2) - 48 := rfl
              by_cases hg : fg t n (p + 3)
              · have z2 := hg.2
                have hdl2 := hg.1
                rw [if_pos hg] at hd hnm
                rw [if_neg (fun z => z hg)]
                simp (disch := omega) only [↓s_M_faultNow_113, ↓s_M_faultNow_115, ↓s_M_faultNow_117, ↓s_M_faultNow_118, ↓s_M_faultNow_119, ↓s_M_faultNow_120, nI_leI, nI_ltI, nI_eq, N_z, nI_add, pk_sub, pk_mul, kL_i, kL_r, kL_d, kL_l, kL_k, kL_f, Option.toList_some, Option.toList_none, List.cons_append, List.nil_append, bI_z, N_and, N_or, N_shl, N_shr, Nat.one_mul, Nat.reduceAdd, c_M_byteAt hr2, Nat.add_assoc]
                rw [if_pos hg.1]
                simp (disch := omega) only [↓s_M_faultNow_123, ↓s_M_faultNow_124, ↓s_M_faultNow_126, ↓s_M_faultNow_127, ↓s_M_faultNow_129, nI_leI, nI_ltI, nI_eq, N_z, nI_add, pk_sub, pk_mul, kL_i, kL_r, kL_d, kL_l, kL_k, kL_f, Option.toList_some, Option.toList_none, List.cons_append, List.nil_append, bI_z, N_and, N_or, N_shl, N_shr, Nat.one_mul, Nat.reduceAdd, Nat.add_assoc]
                exact fin (10 * (t (p + 2) - 48) + t (p + 3) - 48) (p + 4) (by omega) (by omega) (by omega) (by omega) (by omega) (by omega)
              · rw [if_neg hg] at hd hnm
                rw [if_pos hg]
                exact fin (t (p + 2) - 48) (p + 3) (by omega) (by omega) (by omega) (by omega) (by omega) (by omega)
            · rw [if_neg (fun z => z hf), if_neg (fun z => hf z.1)]
          · rw [if_neg hst]
            have K := l_M_faultNow_k (X := X) (d := d) (Q := Q) (hi := hi) (hj := hj) (s := t p) (c := c) (mk := mk) (un := un) (p := p + 1) (T := 1) (by omega) (by omega) (by omega) (by omega) (fun v5 => l_M_faultNow hr f (p + 1) (c + 1) (shm (t p) mk c 1) (shu (t p) un c 1) _ _ v5 (by omega) (by omega) (by omega)) 1 0 (by omega)
            rw [shm_0, shu_0, Nat.add_zero] at K
            by_cases hl : p + 1 < n
            · rw [if_pos hl]
              simp (disch := omega) only [↓s_M_faultNow_65, ↓s_M_faultNow_67, nI_leI, nI_ltI, nI_eq, N_z, nI_add, pk_sub, pk_mul, kL_i, kL_r, kL_d, kL_l, kL_k, kL_f, Option.toList_some, Option.toList_none, List.cons_append, List.nil_append, bI_z, N_and, N_or, N_shl, N_shr, Nat.one_mul, Nat.reduceAdd]
              rw [if_pos (fun z => hst ⟨hl, z⟩)]
              simp (disch := omega) only [↓s_M_faultNow_155, ↓s_M_faultNow_156, nI_leI, nI_ltI, nI_eq, N_z, nI_add, pk_sub, pk_mul, kL_i, kL_r, kL_d, kL_l, kL_k, kL_f, Option.toList_some, Option.toList_none, List.cons_append, List.nil_append, bI_z, N_and, N_or, N_shl, N_shr, Nat.one_mul, Nat.reduceAdd]
              exact K
            · rw [if_neg hl]
              simp (disch := omega) only [↓s_M_faultNow_65, ↓s_M_faultNow_67]
              rw [if_pos (by decide)]
              simp (disch := omega) only [↓s_M_faultNow_155, ↓s_M_faultNow_156, nI_leI, nI_ltI, nI_eq, N_z, nI_add, pk_sub, pk_mul, kL_i, kL_r, kL_d, kL_l, kL_k, kL_f, Option.toList_some, Option.toList_none, List.cons_append, List.nil_append, bI_z, N_and, N_or, N_shl, N_shr, Nat.one_mul, Nat.reduceAdd]
              exact K
      · rw [if_pos (Or.inl hs), if_neg (fun z => hs (Or.inl z)), if_neg (fun z => hs (Or.inr (Or.inl z))), if_pos (fun z => hs (Or.inr (Or.inr z)))]
theorem c_M_faultNow (hr : rdL hi 51 0 52 t n) : cwp X (d + 2) m_M_faultNow [.ref 51] (HP hi hj) Q = Q (some (.int (scan t n 50 0 0 0 0).1)) (HP (G2 hi 51 2 3 (nI (scan t n 50 0 0 0 0).2.1) (nI (scan t n 50 0 0 0 0).2.2)) hj) := by
  obtain ⟨q1, q2, q3, q4⟩ := id hr
  simp only [e_M_faultNow, ↓s_M_faultNow_0, ↓s_M_faultNow_1, ↓s_M_faultNow_2, ↓s_M_faultNow_5, ↓s_M_faultNow_6, ↓s_M_faultNow_7, ↓s_M_faultNow_10, ↓s_M_faultNow_11, ↓s_M_faultNow_12, ↓s_M_faultNow_13, kL_i, kL_d, kL_r]
  exact l_M_faultNow hr 50 0 0 0 0 _ _ _ (by omega) (by omega) (by omega)
end LINE3
