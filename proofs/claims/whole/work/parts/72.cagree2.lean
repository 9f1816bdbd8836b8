section CAG2
variable {X : AX} {d : Nat} {Q : Option Value → AH → Prop} {g0 : Nat → Nat → Int32} {hj : Nat → Nat → Int64} {σ : ST} {Ls : List Nat} {j : Nat → Nat} {a P R : Nat} {h : AH}
theorem oD_ne {l i : Nat} (h : i < on σ l 6) : oD σ l i ≠ 0 := (cb_eq.mp (op_ok h).2.2.2.1).2
/-- one that is in no order with the others has a day of its own -/
theorem AGM_ext (c0 : CP σ Ls g0 hj) (gi : GI σ Ls a j g0) (haP : a.testBit P = true) (hR : oR σ (Ls.getD P 0) (j (Ls.getD P 0)) = R) (hO : AGL σ j (fun l => ∃ q, mbr σ Ls j a R q = true ∧ q ≠ P ∧ l = Ls.getD q 0)) (h0 : ∀ q, q < 8 → a.testBit q = true → rel σ Ls j q P = false ∧ rel σ Ls j P q = false) : AGM σ Ls j a R := by
  have hP := a_lt gi.1 haP
  have hn := c0.2.1
  obtain ⟨rk, dy, q1, q2⟩ := hO
  obtain ⟨y, y1, _⟩ := low_ex (oD_ne (gi.2.2.1 P haP).2)
  have noR : ∀ q, mbr σ Ls j a R q = true → q ≠ P → oW σ (Ls.getD q 0) (j (Ls.getD q 0)) &&& oC σ (Ls.getD P 0) (j (Ls.getD P 0)) = 0 ∧ oW σ (Ls.getD P 0) (j (Ls.getD P 0)) &&& oC σ (Ls.getD q 0) (j (Ls.getD q 0)) = 0 := by
    intro q hq hne
    obtain ⟨m1, m2⟩ := mbr_a hq
    have hq8 := a_lt gi.1 m1
    obtain ⟨z1, z2⟩ := h0 q (by omega) m1
    unfold rel at z1 z2
    rw [decide_eq_false_iff_not, m2, hR] at z1 z2
    constructor
    · by_cases e : oW σ (Ls.getD q 0) (j (Ls.getD q 0)) &&& oC σ (Ls.getD P 0) (j (Ls.getD P 0)) = 0
      · exact e
      · exact absurd ⟨hne, rfl, e⟩ z1
    · by_cases e : oW σ (Ls.getD P 0) (j (Ls.getD P 0)) &&& oC σ (Ls.getD q 0) (j (Ls.getD q 0)) = 0
      · exact e
      · exact absurd ⟨Ne.symm hne, rfl, e⟩ z2
  refine ⟨rk, pu dy (Ls.getD P 0) y, fun l hl => ?_, fun x z hx hz hne he => ?_⟩
  · obtain ⟨q, m, rfl⟩ := hl
    by_cases e : q = P
    · subst e; rw [pu_s]; exact y1
    · rw [pu_n _ (L_ne c0.2.2.1 (a_lt gi.1 (mbr_a m).1) hP e)]
      exact q1 _ ⟨q, m, e, rfl⟩
  · obtain ⟨p, mp, rfl⟩ := hx
    obtain ⟨q, mq, rfl⟩ := hz
    by_cases e1 : p = P
    · subst e1
      have e2 : q ≠ p := fun e => hne (by rw [e])
      exact absurd (noR q mq e2).2 he
    · by_cases e2 : q = P
      · subst e2
        exact absurd (noR p mp e1).1 he
      · rw [pu_n _ (L_ne c0.2.2.1 (a_lt gi.1 (mbr_a mp).1) hP e1), pu_n _ (L_ne c0.2.2.1 (a_lt gi.1 (mbr_a mq).1) hP e2)]
        exact q2 _ _ ⟨p, mp, e1, rfl⟩ ⟨q, mq, e2, rfl⟩ hne he
theorem c_agree (c0 : CP σ Ls g0 hj) (gi : GI σ Ls a j g0) (haP : a.testBit P = true) (hR : oR σ (Ls.getD P 0) (j (Ls.getD P 0)) = R) (hO : AGL σ j (fun l => ∃ q, mbr σ Ls j a R q = true ∧ q ≠ P ∧ l = Ls.getD q 0))
    (Kc : ∀ g, (∀ k, k ≠ 37 → g k = g0 k) → Q (some (.int (bI (cl (AGM σ Ls j a R) = true)))) (HP g hj)) : cwp X (d + 1) m_Groups_agree [.ref 32, .int (nI P)] (HP g0 hj) Q := by
  have hn := c0.2.1
  have hP := a_lt gi.1 haP
  obtain ⟨b1, b2⟩ := gi.2.2.2 P (by omega)
  obtain ⟨c1, c2⟩ := gi.2.2.1 P haP
  obtain ⟨p1, p2, p3, p4, p5, p6, p7, p8⟩ := CP_rd c0 hP c2
  have em := gi.2.1 _ p7
  rw [hR] at em p2 p7
  have l1 := bts_16 (fun p => a.testBit P && a.testBit p && rel σ Ls j p P) (show 8 ≤ 16 by omega)
  have l2 := bts_16 (fun p => a.testBit P && a.testBit p && rel σ Ls j P p) (show 8 ≤ 16 by omega)
  have l3 := Nat.or_lt_two_pow (n := 16) l1 l2
  have l4 : bts (fun p => a.testBit P && a.testBit p && rel σ Ls j p P) 8 &&& bts (fun p => a.testBit P && a.testBit p && rel σ Ls j P p) 8 ≤ bts (fun p => a.testBit P && a.testBit p && rel σ Ls j p P) 8 := Nat.and_le_left
  simp (disch := omega) only [e_Groups_agree, ↓s_Groups_agree_0, ↓s_Groups_agree_1, ↓s_Groups_agree_4, ↓s_Groups_agree_5, ↓s_Groups_agree_6, ↓s_Groups_agree_7, ↓s_Groups_agree_10, ↓s_Groups_agree_11, ↓s_Groups_agree_12, ↓s_Groups_agree_13, ↓s_Groups_agree_16, ↓s_Groups_agree_17_0, ↓s_Groups_agree_17_1, ↓s_Groups_agree_17_b, ↓s_Groups_agree_18, ↓s_Groups_agree_19, ↓s_Groups_agree_22, ↓s_Groups_agree_23, ↓s_Groups_agree_24, ↓s_Groups_agree_25, ↓s_Groups_agree_28, ↓s_Groups_agree_29, ↓s_Groups_agree_30, ↓s_Groups_agree_31, ↓s_Groups_agree_34, ↓s_Groups_agree_35_0, ↓s_Groups_agree_35_1, ↓s_Groups_agree_35_b, nI_leI, nI_ltI, nI_eq, N_z, nI_add, pk_sub, pk_mul, kL_i, kL_r, kL_d, kL_l, kL_k, kL_f, Option.toList_some, Option.toList_none, List.cons_append, List.nil_append, bI_z, N_and, N_or, N_shl, N_shr, Nat.one_mul, Nat.reduceAdd, lg_cmp_eq, L_and, L_or, bI_1, bI_0, if_true, if_false, reduceIte, N_m1x, ite_not, b1, b2]
  by_cases h0 : bts (fun p => a.testBit P && a.testBit p && rel σ Ls j p P) 8 ||| bts (fun p => a.testBit P && a.testBit p && rel σ Ls j P p) 8 = 0
  · rw [if_pos h0]
    have := Kc g0 (fun _ _ => rfl)
    rw [bI_t (cl_t.mpr (AGM_ext c0 gi haP hR hO (fun q hq haq => ?_)))] at this
    · exact this
    · have t := congrArg (fun z => Nat.testBit z q) h0
      simp only [Nat.testBit_or, bts_tb, Nat.zero_testBit] at t
      simp [hq, haq, haP] at t
      exact t
  rw [if_neg h0]
  by_cases h1 : bts (fun p => a.testBit P && a.testBit p && rel σ Ls j p P) 8 &&& bts (fun p => a.testBit P && a.testBit p && rel σ Ls j P p) 8 = 0
  case neg =>
    rw [if_neg h1]
    have := Kc g0 (fun _ _ => rfl)
    rw [bI_f (fun z => ?_)] at this
    · exact this
    · obtain ⟨k, k1, _⟩ := low_ex h1
      rw [Nat.testBit_and, bts_tb, bts_tb] at k1
      simp only [Bool.and_eq_true, decide_eq_true_eq] at k1
      obtain ⟨⟨_, ⟨_, ka⟩, r1⟩, ⟨_, _, r2⟩⟩ := k1
      unfold rel at r1 r2
      rw [decide_eq_true_eq] at r1 r2
      obtain ⟨rk, dy, q1, q2⟩ := cl_t.mp z
      have mP : mbr σ Ls j a R P = true := by unfold mbr; rw [Bool.and_eq_true, decide_eq_true_eq]; exact ⟨haP, hR⟩
      have mk : mbr σ Ls j a R k = true := by unfold mbr; rw [Bool.and_eq_true, decide_eq_true_eq]; exact ⟨ka, r1.2.1.trans hR⟩
      have hne := L_ne c0.2.2.1 (a_lt gi.1 ka) hP r1.1
      have t1 := q2 _ _ ⟨k, mk, rfl⟩ ⟨P, mP, rfl⟩ hne r1.2.2
      have t2 := q2 _ _ ⟨P, mP, rfl⟩ ⟨k, mk, rfl⟩ (Ne.symm hne) r2.2.2
      omega
  rw [if_pos h1]
  rw [cl_cg (AGM_x c0 gi)] at Kc
  simp (disch := omega) only [↓s_Groups_agree_36, ↓s_Groups_agree_37, ↓s_Groups_agree_40, ↓s_Groups_agree_41, ↓s_Groups_agree_44, ↓s_Groups_agree_47, ↓s_Groups_agree_48, ↓s_Groups_agree_51, ↓s_Groups_agree_52, ↓s_Groups_agree_53, ↓s_Groups_agree_54, ↓s_Groups_agree_55, ↓s_Groups_agree_56, ↓s_Groups_agree_57, nI_leI, nI_ltI, nI_eq, N_z, nI_add, pk_sub, pk_mul, kL_i, kL_r, kL_d, kL_l, kL_k, kL_f, Option.toList_some, Option.toList_none, List.cons_append, List.nil_append, bI_z, N_and, N_or, N_shl, N_shr, Nat.one_mul, Nat.reduceAdd, lg_cmp_eq, L_and, L_or, bI_1, bI_0, if_true, if_false, reduceIte, N_m1x, ite_not, c1, p2, em]
  refine l_agreeD c0 gi Kc 9 0 _ (fun _ => 0) g0 _ _ _ _ rfl ⟨fun _ _ => rfl, fun q hq => ?_, bts_16 _ (by omega), by omega, GIv_0 (fun b hb => ?_), fun q hq hl => ?_⟩
  · rw [bts_tb, Bool.and_eq_true] at hq; exact hq.2
  · apply hb.2
    rw [bts_tb, hb.1]
    have := a_lt gi.1 (mbr_a hb.1).1
    simp [show b < 8 by omega]
  · exfalso
    apply hl
    rw [bts_tb, hq]
    have := a_lt gi.1 (mbr_a hq).1
    simp [show q < 8 by omega]
end CAG2
