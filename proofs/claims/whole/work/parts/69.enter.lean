/-! enter, leave -/
theorem tb_z (a k : Nat) : (a / 2 ^ k % 2 = 0) = ¬ (a.testBit k = true) := by
  rw [← tb_dm]
  apply propext
  omega
section ENT
variable {X : AX} {d : Nat} {Q : Option Value → AH → Prop} {g0 : Nat → Nat → Int32} {hj : Nat → Nat → Int64} {σ : ST} {Ls : List Nat} {j : Nat → Nat} {a P i : Nat}
theorem L_ne {Ls : List Nat} (hn : Ls.Nodup) {p q : Nat} (hp : p < Ls.length) (hq : q < Ls.length) (h : p ≠ q) : Ls.getD p 0 ≠ Ls.getD q 0 := fun e => h (gD_inj hn hp hq e)
theorem l_enter {j2 : Nat → Nat} (c0 : CP σ Ls g0 hj) (gi : GI σ Ls a j g0) (hP : P < Ls.length) (haP : ¬ a.testBit P = true) (hi : i < on σ (Ls.getD P 0) 6) (ej : j2 = pu j (Ls.getD P 0) i)
    (Kc : ∀ g v4, (∀ k, k ≠ 35 → k ≠ 36 → g k = g0 k) → AR σ Ls j j2 a P Ls.length Ls.length g → wp X d m_Groups_enter 153 [.ref 32, .int (nI P), .int (nI (bas σ Ls P + i)), .int (nI (bts (mbr σ Ls j a (oR σ (Ls.getD P 0) i)) 8)), v4] [] (HP g hj) Q) :
    ∀ (m x : Nat) (g : Nat → Nat → Int32), x + m = Ls.length → (∀ k, k ≠ 35 → k ≠ 36 → g k = g0 k) → AR σ Ls j j2 a P x x g →
    wp X d m_Groups_enter 18 [.ref 32, .int (nI P), .int (nI (bas σ Ls P + i)), .int (nI (bts (mbr σ Ls j a (oR σ (Ls.getD P 0) i)) 8)), .int (nI x)] [] (HP g hj) Q
  | 0, x, g, hx, e1, ar => by
    have hn := c0.2.1
    have e0 : g 24 2 = nI Ls.length := by rw [e1 24 (by omega) (by omega)]; exact c0.1.1
    have : x = Ls.length := by omega
    subst this
    rw [s_Groups_enter_18]
    simp (disch := omega) only [↓s_Groups_enter_20, ↓s_Groups_enter_21, ↓s_Groups_enter_24, ↓s_Groups_enter_27, nI_leI, nI_ltI, nI_eq, N_z, nI_add, pk_sub, pk_mul, kL_i, kL_r, kL_d, kL_l, kL_k, kL_f, Option.toList_some, Option.toList_none, List.cons_append, List.nil_append, bI_z, N_and, N_or, N_shl, N_shr, Nat.one_mul, Nat.reduceAdd, lg_cmp_eq, L_and, L_or, bI_1, bI_0, if_true, if_false, reduceIte, N_m1x, ite_not, e0, Nat.le_refl]
    exact Kc g _ e1 ar
  | m + 1, x, g, hx, e1, ar => by
    have hn := c0.2.1
    have e0 : g 24 2 = nI Ls.length := by rw [e1 24 (by omega) (by omega)]; exact c0.1.1
    have c := CP_cg c0 (g2 := g) (fun k _ _ => e1 k (by omega) (by omega))
    obtain ⟨p1, p2, p3, p4, p5, p6, p7, p8⟩ := CP_rd c hP hi
    have lb := bts_16 (mbr σ Ls j a (oR σ (Ls.getD P 0) i)) (show 8 ≤ 16 by omega)
    have tb : (bts (mbr σ Ls j a (oR σ (Ls.getD P 0) i)) 8).testBit x = mbr σ Ls j a (oR σ (Ls.getD P 0) i) x := by rw [bts_tb]; simp [show x < 8 by omega]
    have jP : j2 (Ls.getD P 0) = i := by rw [ej, pu_s]
    have next : ∀ g', (∀ k, k ≠ 35 → k ≠ 36 → g' k = g0 k) → AR σ Ls j j2 a P (x + 1) (x + 1) g' → wp X d m_Groups_enter 147 [.ref 32, .int (nI P), .int (nI (bas σ Ls P + i)), .int (nI (bts (mbr σ Ls j a (oR σ (Ls.getD P 0) i)) 8)), .int (nI x)] [] (HP g' hj) Q := by
      intro g' q1 q2
      simp (disch := omega) only [↓s_Groups_enter_147, ↓s_Groups_enter_150, nI_leI, nI_ltI, nI_eq, N_z, nI_add, pk_sub, pk_mul, kL_i, kL_r, kL_d, kL_l, kL_k, kL_f, Option.toList_some, Option.toList_none, List.cons_append, List.nil_append, bI_z, N_and, N_or, N_shl, N_shr, Nat.one_mul, Nat.reduceAdd, lg_cmp_eq, L_and, L_or, bI_1, bI_0, if_true, if_false, reduceIte, N_m1x, ite_not]
      exact l_enter c0 gi hP haP hi ej Kc m (x + 1) g' (by omega) q1 q2
    rw [s_Groups_enter_18]
    simp (disch := omega) only [↓s_Groups_enter_20, ↓s_Groups_enter_21, ↓s_Groups_enter_24, ↓s_Groups_enter_27, ↓s_Groups_enter_30, ↓s_Groups_enter_31, ↓s_Groups_enter_33, ↓s_Groups_enter_34, ↓s_Groups_enter_35, ↓s_Groups_enter_36, nI_leI, nI_ltI, nI_eq, N_z, nI_add, pk_sub, pk_mul, kL_i, kL_r, kL_d, kL_l, kL_k, kL_f, Option.toList_some, Option.toList_none, List.cons_append, List.nil_append, bI_z, N_and, N_or, N_shl, N_shr, Nat.one_mul, Nat.reduceAdd, lg_cmp_eq, L_and, L_or, bI_1, bI_0, if_true, if_false, reduceIte, N_m1x, ite_not, e0, Nat.and_one_is_mod, tb_z, tb]
    rw [if_neg (by omega)]
    by_cases hm : mbr σ Ls j a (oR σ (Ls.getD P 0) i) x = true
    case neg =>
      rw [if_neg hm]
      have no1 : ¬ (a.testBit x = true ∧ rel σ Ls j2 x P = true) := by
        rintro ⟨z1, z2⟩
        apply hm
        have hxP : x ≠ P := fun e => haP (e ▸ z1)
        have hjx : j2 (Ls.getD x 0) = j (Ls.getD x 0) := by rw [ej, pu_n _ (L_ne c0.2.2.1 (by omega) hP hxP)]
        unfold rel at z2
        rw [decide_eq_true_eq, hjx, jP] at z2
        unfold mbr
        simp [z1, z2.2.1]
        exact z2.2.1
      have no2 : ¬ (a.testBit x = true ∧ rel σ Ls j2 P x = true) := by
        rintro ⟨z1, z2⟩
        apply hm
        have hxP : x ≠ P := fun e => haP (e ▸ z1)
        have hjx : j2 (Ls.getD x 0) = j (Ls.getD x 0) := by rw [ej, pu_n _ (L_ne c0.2.2.1 (by omega) hP hxP)]
        unfold rel at z2
        rw [decide_eq_true_eq, hjx, jP] at z2
        unfold mbr
        simp [z1, z2.2.1]
        exact z2.2.1.symm
      exact next g e1 (AR_y0 (AR_x0 ar no1) no2)
    rw [if_pos hm]
    have hm2 : a.testBit x = true ∧ oR σ (Ls.getD x 0) (j (Ls.getD x 0)) = oR σ (Ls.getD P 0) i := by
      unfold mbr at hm
      rw [Bool.and_eq_true, decide_eq_true_eq] at hm
      exact hm
    have hxP : x ≠ P := fun e => haP (e ▸ hm2.1)
    have hjx : j2 (Ls.getD x 0) = j (Ls.getD x 0) := by rw [ej, pu_n _ (L_ne c0.2.2.1 (by omega) hP hxP)]
    obtain ⟨gx1, gx2⟩ := gi.2.2.1 x hm2.1
    rw [← e1 33 (by omega) (by omega)] at gx1
    obtain ⟨r1, r2, r3, r4, r5, r6, r7, r8⟩ := CP_rd c (show x < Ls.length by omega) gx2
    have lw : oW σ (Ls.getD x 0) (j (Ls.getD x 0)) &&& oC σ (Ls.getD P 0) i ≤ oC σ (Ls.getD P 0) i := Nat.and_le_right
    have lc := oC_lt (σ := σ) (l := Ls.getD P 0) (i := i)
    have lw2 : oW σ (Ls.getD P 0) i &&& oC σ (Ls.getD x 0) (j (Ls.getD x 0)) ≤ oC σ (Ls.getD x 0) (j (Ls.getD x 0)) := Nat.and_le_right
    have lc2 := oC_lt (σ := σ) (l := Ls.getD x 0) (i := j (Ls.getD x 0))
    have rel1 : rel σ Ls j2 x P = true ↔ oW σ (Ls.getD x 0) (j (Ls.getD x 0)) &&& oC σ (Ls.getD P 0) i ≠ 0 := by
      unfold rel
      rw [decide_eq_true_eq, hjx, jP]
      exact ⟨fun z => z.2.2, fun z => ⟨hxP, hm2.2, z⟩⟩
    have rel2 : rel σ Ls j2 P x = true ↔ oW σ (Ls.getD P 0) i &&& oC σ (Ls.getD x 0) (j (Ls.getD x 0)) ≠ 0 := by
      unfold rel
      rw [decide_eq_true_eq, hjx, jP]
      exact ⟨fun z => z.2.2, fun z => ⟨Ne.symm hxP, hm2.2.symm, z⟩⟩
    -- the second direction
    have snd : ∀ g', (∀ k, k ≠ 35 → k ≠ 36 → g' k = g0 k) → AR σ Ls j j2 a P (x + 1) x g' → wp X d m_Groups_enter 93 [.ref 32, .int (nI P), .int (nI (bas σ Ls P + i)), .int (nI (bts (mbr σ Ls j a (oR σ (Ls.getD P 0) i)) 8)), .int (nI x)] [] (HP g' hj) Q := by
      intro g' q1 q2
      have t33 : g' 33 x = nI (bas σ Ls x + j (Ls.getD x 0)) := by rw [q1 33 (by omega) (by omega), ← e1 33 (by omega) (by omega)]; exact gx1
      have t29 : g' 29 (bas σ Ls P + i) = nI (oW σ (Ls.getD P 0) i) := by rw [q1 29 (by omega) (by omega), ← e1 29 (by omega) (by omega)]; exact p4
      have t30 : g' 30 (bas σ Ls x + j (Ls.getD x 0)) = nI (oC σ (Ls.getD x 0) (j (Ls.getD x 0))) := by rw [q1 30 (by omega) (by omega), ← e1 30 (by omega) (by omega)]; exact r5
      simp (disch := omega) only [↓s_Groups_enter_93, ↓s_Groups_enter_94, ↓s_Groups_enter_97, ↓s_Groups_enter_100, ↓s_Groups_enter_101, ↓s_Groups_enter_102, ↓s_Groups_enter_103, ↓s_Groups_enter_106, ↓s_Groups_enter_109, ↓s_Groups_enter_110, ↓s_Groups_enter_113, ↓s_Groups_enter_115, ↓s_Groups_enter_116, ↓s_Groups_enter_117, ↓s_Groups_enter_118, nI_leI, nI_ltI, nI_eq, N_z, nI_add, pk_sub, pk_mul, kL_i, kL_r, kL_d, kL_l, kL_k, kL_f, Option.toList_some, Option.toList_none, List.cons_append, List.nil_append, bI_z, N_and, N_or, N_shl, N_shr, Nat.one_mul, Nat.reduceAdd, lg_cmp_eq, L_and, L_or, bI_1, bI_0, if_true, if_false, reduceIte, N_m1x, ite_not, t33, t29, t30]
      by_cases h2 : oW σ (Ls.getD P 0) i &&& oC σ (Ls.getD x 0) (j (Ls.getD x 0)) = 0
      · rw [if_pos h2]
        exact next g' q1 (AR_y0 q2 (fun z => (rel2.mp z.2) h2))
      · rw [if_neg h2]
        obtain ⟨z1, z2⟩ := q2 P (by omega)
        obtain ⟨z3, z4⟩ := q2 x (by omega)
        simp (disch := omega) only [↓s_Groups_enter_121, ↓s_Groups_enter_122, ↓s_Groups_enter_125, ↓s_Groups_enter_126, ↓s_Groups_enter_127, ↓s_Groups_enter_128, ↓s_Groups_enter_129, ↓s_Groups_enter_131, ↓s_Groups_enter_132, ↓s_Groups_enter_133, ↓s_Groups_enter_134, ↓s_Groups_enter_135, ↓s_Groups_enter_138, ↓s_Groups_enter_140, ↓s_Groups_enter_141, ↓s_Groups_enter_142, ↓s_Groups_enter_143, ↓s_Groups_enter_144, ↓s_Groups_enter_145, ↓s_Groups_enter_146, nI_leI, nI_ltI, nI_eq, N_z, nI_add, pk_sub, pk_mul, kL_i, kL_r, kL_d, kL_l, kL_k, kL_f, Option.toList_some, Option.toList_none, List.cons_append, List.nil_append, bI_z, N_and, N_or, N_shl, N_shr, Nat.one_mul, Nat.reduceAdd, lg_cmp_eq, L_and, L_or, bI_1, bI_0, if_true, if_false, reduceIte, N_m1x, ite_not, u2_s, u2_n, u2_m, z2, z3]
        refine next _ (fun k k1 k2 => by rw [u2_r _ _ _ k1, u2_r _ _ _ k2]; exact q1 k k1 k2) (AR_y (by omega) (by omega) hxP q2 ⟨hm2.1, rel2.mpr h2⟩ (fun A B hA hB => ?_))
        rw [← N_or A, ← N_or B, ← hA, ← hB, z2, z3, N_or, N_or]
    have t29 : g 29 (bas σ Ls x + j (Ls.getD x 0)) = nI (oW σ (Ls.getD x 0) (j (Ls.getD x 0))) := r4
    simp (disch := omega) only [↓s_Groups_enter_39, ↓s_Groups_enter_40, ↓s_Groups_enter_43, ↓s_Groups_enter_46, ↓s_Groups_enter_47, ↓s_Groups_enter_50, ↓s_Groups_enter_52, ↓s_Groups_enter_53, ↓s_Groups_enter_54, ↓s_Groups_enter_55, ↓s_Groups_enter_58, ↓s_Groups_enter_61, ↓s_Groups_enter_62, ↓s_Groups_enter_63, ↓s_Groups_enter_64, nI_leI, nI_ltI, nI_eq, N_z, nI_add, pk_sub, pk_mul, kL_i, kL_r, kL_d, kL_l, kL_k, kL_f, Option.toList_some, Option.toList_none, List.cons_append, List.nil_append, bI_z, N_and, N_or, N_shl, N_shr, Nat.one_mul, Nat.reduceAdd, lg_cmp_eq, L_and, L_or, bI_1, bI_0, if_true, if_false, reduceIte, N_m1x, ite_not, gx1, r4, p5]
    by_cases h1 : oW σ (Ls.getD x 0) (j (Ls.getD x 0)) &&& oC σ (Ls.getD P 0) i = 0
    · rw [if_pos h1]
      exact snd g e1 (AR_x0 ar (fun z => (rel1.mp z.2) h1))
    · rw [if_neg h1]
      obtain ⟨z1, z2⟩ := ar P (by omega)
      obtain ⟨z3, z4⟩ := ar x (by omega)
      simp (disch := omega) only [↓s_Groups_enter_67, ↓s_Groups_enter_68, ↓s_Groups_enter_71, ↓s_Groups_enter_72, ↓s_Groups_enter_73, ↓s_Groups_enter_74, ↓s_Groups_enter_75, ↓s_Groups_enter_77, ↓s_Groups_enter_78, ↓s_Groups_enter_79, ↓s_Groups_enter_80, ↓s_Groups_enter_81, ↓s_Groups_enter_84, ↓s_Groups_enter_86, ↓s_Groups_enter_87, ↓s_Groups_enter_88, ↓s_Groups_enter_89, ↓s_Groups_enter_90, ↓s_Groups_enter_91, ↓s_Groups_enter_92, nI_leI, nI_ltI, nI_eq, N_z, nI_add, pk_sub, pk_mul, kL_i, kL_r, kL_d, kL_l, kL_k, kL_f, Option.toList_some, Option.toList_none, List.cons_append, List.nil_append, bI_z, N_and, N_or, N_shl, N_shr, Nat.one_mul, Nat.reduceAdd, lg_cmp_eq, L_and, L_or, bI_1, bI_0, if_true, if_false, reduceIte, N_m1x, ite_not, u2_s, u2_n, u2_m, z1, z4]
      refine snd _ (fun k k1 k2 => by rw [u2_r _ _ _ k2, u2_r _ _ _ k1]; exact e1 k k1 k2) (AR_x (by omega) (by omega) hxP ar ⟨hm2.1, rel1.mpr h1⟩ (fun B A hB hA => ?_))
      rw [← N_or A, ← N_or B, ← hA, ← hB, z1, z4, N_or, N_or]
theorem c_enter (c0 : CP σ Ls g0 hj) (gi : GI σ Ls a j g0) (hP : P < Ls.length) (haP : ¬ a.testBit P = true) (hi : i < on σ (Ls.getD P 0) 6)
    (Kc : ∀ g, (∀ k, k < 33 ∨ 37 ≤ k → g k = g0 k) → GI σ Ls (a ||| 2 ^ P) (pu j (Ls.getD P 0) i) g → Q none (HP g hj)) : cwp X d m_Groups_enter [.ref 32, .int (nI P), .int (nI (bas σ Ls P + i))] (HP g0 hj) Q := by
  have hn := c0.2.1
  obtain ⟨p1, p2, p3, p4, p5, p6, p7, p8⟩ := CP_rd c0 hP hi
  obtain ⟨g1, g2, g3, g4⟩ := id gi
  have em := g2 _ p7
  simp (disch := omega) only [e_Groups_enter, ↓s_Groups_enter_0, ↓s_Groups_enter_1, ↓s_Groups_enter_4, ↓s_Groups_enter_5, ↓s_Groups_enter_8, ↓s_Groups_enter_11, ↓s_Groups_enter_12, ↓s_Groups_enter_13, ↓s_Groups_enter_14, ↓s_Groups_enter_15, ↓s_Groups_enter_16, nI_leI, nI_ltI, nI_eq, N_z, nI_add, pk_sub, pk_mul, kL_i, kL_r, kL_d, kL_l, kL_k, kL_f, Option.toList_some, Option.toList_none, List.cons_append, List.nil_append, bI_z, N_and, N_or, N_shl, N_shr, Nat.one_mul, Nat.reduceAdd, lg_cmp_eq, L_and, L_or, bI_1, bI_0, if_true, if_false, reduceIte, N_m1x, ite_not, p2, em]
  refine l_enter c0 gi hP haP hi rfl (fun g v4 e1 ar => ?_) Ls.length 0 g0 (by omega) (fun _ _ _ => rfl) (fun q hq => ?_)
  · have t27 : g 27 (bas σ Ls P + i) = nI (oR σ (Ls.getD P 0) i) := by rw [e1 27 (by omega) (by omega)]; exact p2
    simp (disch := omega) only [↓s_Groups_enter_153, ↓s_Groups_enter_154, ↓s_Groups_enter_157, ↓s_Groups_enter_158, ↓s_Groups_enter_159, ↓s_Groups_enter_160, ↓s_Groups_enter_161, ↓s_Groups_enter_164, ↓s_Groups_enter_165, ↓s_Groups_enter_168, ↓s_Groups_enter_171, ↓s_Groups_enter_172, ↓s_Groups_enter_173, ↓s_Groups_enter_174, ↓s_Groups_enter_175, ↓s_Groups_enter_176, ↓s_Groups_enter_177, ↓s_Groups_enter_178, ↓s_Groups_enter_179, nI_leI, nI_ltI, nI_eq, N_z, nI_add, pk_sub, pk_mul, kL_i, kL_r, kL_d, kL_l, kL_k, kL_f, Option.toList_some, Option.toList_none, List.cons_append, List.nil_append, bI_z, N_and, N_or, N_shl, N_shr, Nat.one_mul, Nat.reduceAdd, lg_cmp_eq, L_and, L_or, bI_1, bI_0, if_true, if_false, reduceIte, N_m1x, ite_not, u2_s, u2_n, u2_m, t27]
    have aP : ∀ q, (a ||| 2 ^ P).testBit q = (a.testBit q || decide (P = q)) := fun q => or_tb a P q
    have jo : ∀ q, q < Ls.length → q ≠ P → pu j (Ls.getD P 0) i (Ls.getD q 0) = j (Ls.getD q 0) := fun q h1 h2 => pu_n _ (L_ne c0.2.2.1 h1 hP h2)
    refine Kc _ (fun k hk => ?_) ⟨?_, fun r hr => ?_, fun q hq => ?_, fun q hq => ?_⟩
    · simp (disch := omega) only [u2_r]
      exact e1 k (by omega) (by omega)
    · exact Nat.or_lt_two_pow g1 (Nat.pow_lt_pow_right (by omega) hP)
    · by_cases e : r = oR σ (Ls.getD P 0) i
      · subst e
        rw [u2_s]
        congr 1
        symm
        refine bts_or (by omega) (by omega) (fun q hq => ?_)
        unfold mbr
        rw [aP]
        by_cases e2 : q = P
        · subst e2
          rw [pu_s]; simp
        · by_cases e3 : a.testBit q = true
          · rw [jo q (a_lt g1 e3) e2]; simp [e2, e3]
          · simp [e2, e3, Ne.symm e2]
      · rw [u2_m _ _ _ _ e, u2_n _ _ _ _ (by omega), e1 34 (by omega) (by omega), g2 r hr]
        congr 1
        refine bts_cg 8 (fun q hq => ?_)
        unfold mbr
        rw [aP]
        by_cases e2 : q = P
        · subst e2
          rw [pu_s]; simp [haP]; exact fun z => e z.symm
        · by_cases e3 : a.testBit q = true
          · rw [jo q (a_lt g1 e3) e2]; simp [e3]
          · simp [e3, Ne.symm e2]
    · rw [aP] at hq
      rw [u2_n _ _ _ _ (by omega)]
      by_cases e2 : q = P
      · subst e2
        rw [u2_s, pu_s]
        exact ⟨rfl, hi⟩
      · have e3 : a.testBit q = true := by simpa [Ne.symm e2] using hq
        rw [u2_m _ _ _ _ e2, jo q (a_lt g1 e3) e2, e1 33 (by omega) (by omega)]
        exact g3 q e3
    · obtain ⟨z1, z2⟩ := ar q hq
      simp (disch := omega) only [u2_n]
      rw [z1, z2]
      constructor
      · congr 1
        refine bts_cg 8 (fun p hp => ?_)
        unfold F35
        rw [aP, aP]
        by_cases e2 : q = P
        · subst e2
          rw [if_pos rfl]
          by_cases e3 : p = q
          · subst e3; simp [rel]
          · by_cases e4 : a.testBit p = true
            · have := a_lt g1 e4; simp [e4, this]
            · simp [e4, Ne.symm e3]
        · rw [if_neg e2]
          by_cases e3 : p = P
          · subst e3
            rw [if_pos rfl]
            by_cases e4 : a.testBit q = true
            · have := a_lt g1 e4; simp [e4, this]
            · simp [e4, Ne.symm e2]
          · rw [if_neg e3]
            by_cases e4 : a.testBit q = true
            · by_cases e5 : a.testBit p = true
              · rw [rel_cg (jo p (a_lt g1 e5) e3) (jo q (a_lt g1 e4) e2)]; simp [e4, e5]
              · simp [e5, Ne.symm e3]
            · simp [e4, Ne.symm e2]
      · congr 1
        refine bts_cg 8 (fun p hp => ?_)
        unfold F36
        rw [aP, aP]
        by_cases e2 : q = P
        · subst e2
          rw [if_pos rfl]
          by_cases e3 : p = q
          · subst e3; simp [rel]
          · by_cases e4 : a.testBit p = true
            · have := a_lt g1 e4; simp [e4, this]
            · simp [e4, Ne.symm e3]
        · rw [if_neg e2]
          by_cases e3 : p = P
          · subst e3
            rw [if_pos rfl]
            by_cases e4 : a.testBit q = true
            · have := a_lt g1 e4; simp [e4, this]
            · simp [e4, Ne.symm e2]
          · rw [if_neg e3]
            by_cases e4 : a.testBit q = true
            · by_cases e5 : a.testBit p = true
              · rw [rel_cg (jo q (a_lt g1 e4) e2) (jo p (a_lt g1 e5) e3)]; simp [e4, e5]
              · simp [e5, Ne.symm e3]
            · simp [e4, Ne.symm e2]
  · obtain ⟨z1, z2⟩ := g4 q hq
    have haF : a.testBit P = false := by simpa using haP
    rw [z1, z2]
    constructor
    · congr 1
      refine bts_cg 8 (fun p hp => ?_)
      unfold F35
      by_cases e2 : q = P
      · subst e2; simp [haF]
      · rw [if_neg e2]
        by_cases e3 : p = P
        · subst e3; simp [haF]
        · rw [if_neg e3]
    · congr 1
      refine bts_cg 8 (fun p hp => ?_)
      unfold F36
      by_cases e2 : q = P
      · subst e2; simp [haF]
      · rw [if_neg e2]
        by_cases e3 : p = P
        · subst e3; simp [haF]
        · rw [if_neg e3]
end ENT
