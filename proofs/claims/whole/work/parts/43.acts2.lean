/-! ring, anew, held, aside -/
section ACTS2
variable {X : AX} {d : Nat} {Q : Option Value → AH → Prop} {g g2 : Nat → Nat → Int32} {hj hj2 : Nat → Nat → Int64} {σ τ : ST} {a b a1 a2 a3 a4 : Int32} {t : Nat → Nat} {n : Nat} {h : AH}
theorem c_forget : cwp X d m_Ways_forget [.ref 19] (HP g hj) Q = Q none (HP (up2 g 19 10 (nI 0)) hj) := by
  simp only [e_Ways_forget, ↓s_Ways_forget_0, ↓s_Ways_forget_1, ↓s_Ways_forget_2_0, ↓s_Ways_forget_2_1, ↓s_Ways_forget_5]
theorem c_forgetLumps : cwp X (d + 1) m_C_forgetLumps [.ref 0] (HP g hj) Q = Q none (HP (up2 (up2 g 19 10 (nI 0)) 42 7 (nI 0)) hj) := by
  simp only [e_C_forgetLumps, ↓s_C_forgetLumps_0, ↓s_C_forgetLumps_1, ↓s_C_forgetLumps_4, ↓s_C_forgetLumps_7, ↓s_C_forgetLumps_8, ↓s_C_forgetLumps_11, ↓s_C_forgetLumps_14, c_forget, e_Strangers_forget, ↓s_Strangers_forget_0, ↓s_Strangers_forget_1, ↓s_Strangers_forget_2_0, ↓s_Strangers_forget_2_1, ↓s_Strangers_forget_5, nI_leI, nI_ltI, nI_eq, N_z, nI_add, pk_sub, pk_mul, kL_i, kL_r, kL_d, kL_l, kL_k, kL_f, Option.toList_some, Option.toList_none, List.cons_append, List.nil_append, bI_z, N_and, N_or, N_shl, N_shr, Nat.one_mul, Nat.reduceAdd, lg_cmp_eq, L_and, L_or, bI_1, bI_0, if_true, if_false, reduceIte, N_m1x, ite_not]
/-- after a change that leaves lumps alone -/
theorem CR_rings {σ2 : ST} {t2 : Nat → Nat} {n2 : Nat} (c : CR t n σ τ g hj) (h1 : rdL g2 1 1 2 t2 n2) (h2 : C0 σ2 g2 hj2) (h3 : g2 19 10 = nI 0) (e : ∀ k, 20 ≤ k → k ≤ 50 → g2 k = g k) (e3 : PL σ2 = PL σ) (e11 : σ2 11 = σ 11) (e12 : σ2 12 = σ 12) (e13 : σ2 13 = σ 13) (e14 : σ2 14 = σ 14) (e15 : σ2 15 = σ 15) (e18 : σ2 18 = σ 18) : CR t2 n2 σ2 τ g2 hj2 := by
  refine ⟨h1, h2, ⟨GE_cg c.2.2.1.1 (fun k _ _ => e k (by omega) (by omega)), Or.inl h3⟩, ?_, CS_cg c.2.2.2.2 (fun k _ _ => e k (by omega) (by omega))⟩
  have hk := CG_cg (g2 := g2) c.2.2.2.1 (fun k _ _ => e k (by omega) (by omega))
  unfold CG LR VR jn jnt bl wh nob at hk ⊢
  rw [e3, e11, e12, e13, e14, e15, e18]
  exact hk
theorem pl_cg {σ2 : ST} (e18 : σ2 18 = σ 18) : ∀ m, pl σ2 m = pl σ m
  | 0 => rfl
  | m + 1 => by
    unfold pl
    rw [e18, pl_cg e18 m]
theorem WF_rg {mk : Nat} (w : WF σ) (h6 : σ 2 0 < 6) (hm : mk < 65536) : WF (rgT σ mk) := by
  obtain ⟨w1, ⟨w2, w3⟩, ⟨w4, w5⟩, w6, w7, w8, w9⟩ := w
  unfold rgT
  refine ⟨?_, ⟨?_, fun r hr => ?_⟩, ⟨?_, fun h hh => ?_⟩, ?_, ?_, ?_, ?_⟩
  · simp (disch := omega) only [u2_r]; exact w1
  · simp (disch := omega) only [u2_s, u2_n, u2_m]; omega
  · simp (disch := omega) only [u2_s, u2_n, u2_m] at hr ⊢
    by_cases e : r = σ 2 0
    · subst e
      simp (disch := omega) only [u2_s, u2_n, u2_m]
      exact ⟨hm, by omega, by omega, by simp⟩
    · simp (disch := omega) only [u2_s, u2_n, u2_m]
      exact w3 r (by omega)
  · simp (disch := omega) only [u2_s, u2_n, u2_m]; exact w4
  · simp (disch := omega) only [u2_s, u2_n, u2_m] at hh ⊢
    have := w5 h hh
    exact ⟨by omega, this.2⟩
  · simp (disch := omega) only [u2_r]; exact w6
  · simp (disch := omega) only [u2_r]; exact w7
  · simp (disch := omega) only [u2_r]; exact w8
  · simp (disch := omega) only [u2_r]; exact w9
theorem p_C_ring (c : CR t n σ τ g hj) (K : KC g hj Q (rgS t n σ τ)) : cwp X (d + 3) m_C_ring [.ref 0] (HP g hj) Q := by
  obtain ⟨q1, q2, q3, q4⟩ := id c.1
  have w := c.2.1.1
  have w2 := w.2.1.1
  obtain ⟨s1, s2, s3⟩ := sc_ok (t := t) (n := n)
  have e0 := c.2.1.2.1.1
  unfold rgS at K
  have z2 : (nI (sc t n).2.2 = 0) = ((sc t n).2.2 = 0) := propext (N_z (by omega))
  simp (disch := omega) only [e_C_ring, ↓s_C_ring_0, ↓s_C_ring_1, ↓s_C_ring_4, ↓s_C_ring_7, ↓s_C_ring_8, ↓s_C_ring_11, ↓s_C_ring_12, ↓s_C_ring_15, ↓s_C_ring_18, ↓s_C_ring_21, ↓s_C_ring_23, c_Line_fault c.1, nI_leI, nI_ltI, nI_eq, N_z, nI_add, pk_sub, pk_mul, kL_i, kL_r, kL_d, kL_l, kL_k, kL_f, Option.toList_some, Option.toList_none, List.cons_append, List.nil_append, bI_z, N_and, N_or, N_shl, N_shr, Nat.one_mul, Nat.reduceAdd, lg_cmp_eq, L_and, L_or, bI_1, bI_0, if_true, if_false, reduceIte, N_m1x, ite_not, G2_j, G2_i, z2]
  by_cases h1 : (sc t n).1 = -1
  · rw [if_pos h1]
    by_cases h2 : (sc t n).2.2 = 0
    · rw [if_pos h2]
      rw [if_pos ⟨h1, h2⟩] at K
      have e1 : G2 g 1 2 3 (nI (sc t n).2.1) (nI (sc t n).2.2) 3 3 = nI (σ 2 0) := by rw [G2_n (by omega)]; exact e0
      by_cases h3 : σ 2 0 < 6
      · rw [if_pos h3] at K
        simp (disch := omega) only [↓s_C_ring_21, ↓s_C_ring_23, ↓s_C_ring_24, ↓s_C_ring_25, ↓s_C_ring_28, ↓s_C_ring_31, ↓s_C_ring_33, ↓s_C_ring_36, ↓s_C_ring_38, ↓s_C_ring_39, ↓s_C_ring_40, ↓s_C_ring_43, ↓s_C_ring_44, ↓s_C_ring_47, ↓s_C_ring_50, ↓s_C_ring_53, ↓s_C_ring_54, ↓s_C_ring_55, ↓s_C_ring_58, ↓s_C_ring_61, ↓s_C_ring_62, ↓s_C_ring_63, ↓s_C_ring_66, ↓s_C_ring_69, ↓s_C_ring_70, e1, nI_leI, nI_ltI, nI_eq, N_z, nI_add, pk_sub, pk_mul, kL_i, kL_r, kL_d, kL_l, kL_k, kL_f, Option.toList_some, Option.toList_none, List.cons_append, List.nil_append, bI_z, N_and, N_or, N_shl, N_shr, Nat.one_mul, Nat.reduceAdd, lg_cmp_eq, L_and, L_or, bI_1, bI_0, if_true, if_false, reduceIte, N_m1x, ite_not, h3, e_Rings_add, ↓s_Rings_add_0, ↓s_Rings_add_1, ↓s_Rings_add_4, ↓s_Rings_add_5, ↓s_Rings_add_6, ↓s_Rings_add_9, ↓s_Rings_add_10, ↓s_Rings_add_11, ↓s_Rings_add_12, ↓s_Rings_add_13, ↓s_Rings_add_16, ↓s_Rings_add_17, ↓s_Rings_add_18, ↓s_Rings_add_19, ↓s_Rings_add_20, ↓s_Rings_add_23, ↓s_Rings_add_24, ↓s_Rings_add_25, ↓s_Rings_add_26, ↓s_Rings_add_27, ↓s_Rings_add_28, ↓s_Rings_add_31, ↓s_Rings_add_32, ↓s_Rings_add_33, ↓s_Rings_add_36, ↓s_Rings_add_37, e_Line_clear, ↓s_Line_clear_0, ↓s_Line_clear_1, ↓s_Line_clear_4, ↓s_Line_clear_5, ↓s_Line_clear_6, ↓s_Line_clear_7, ↓s_Line_clear_10, ↓s_Line_clear_11, c_forget, u2_s, u2_n, u2_m, G2_i]
        refine K _ _ (CR_rings (σ2 := rgT σ (sc t n).2.1) (t2 := t) (n2 := 0) c ⟨?_, by omega, fun i hi => absurd hi (Nat.not_lt_zero i), q4⟩ ⟨WF_rg w h3 s1, ?_, ?_, ?_⟩ ?_ ?_ ?_ ?_ ?_ ?_ ?_ ?_ ?_) ?_ (fun _ _ => rfl)
        · simp (disch := omega) only [u2_s, u2_n, u2_m]
        · unfold rgT
          refine ⟨?_, fun r hr => ?_⟩
          · simp (disch := omega) only [u2_s, u2_n, u2_m]
          · simp (disch := omega) only [u2_s, u2_n, u2_m] at hr ⊢
            by_cases e : r = σ 2 0
            · subst e
              simp (disch := omega) only [u2_s, u2_n, u2_m]
              exact ⟨trivial, rfl, rfl⟩
            · simp (disch := omega) only [u2_s, u2_n, u2_m, G2_n]
              exact c.2.1.2.1.2 r (by omega)
        · have := c.2.1.2.2.1
          unfold rgT rdHc at *
          simp (disch := omega) only [u2_s, u2_n, u2_m, u2_r, G2_n]
          exact this
        · have := c.2.1.2.2.2
          unfold rgT rdLu wh bl nob at *
          simp (disch := omega) only [u2_r, u2_s, u2_n, u2_m, G2_n]
          exact this
        · simp (disch := omega) only [u2_s, u2_n, u2_m]
        · intro k h1 h2; unfold G2; simp (disch := omega) only [u2_r]
        · show pl (rgT σ _) (rgT σ _ 11 0) = _
          rw [pl_cg (σ := σ) (by unfold rgT; simp (disch := omega) only [u2_r])]
          unfold rgT; simp (disch := omega) only [u2_r]
        · unfold rgT; simp (disch := omega) only [u2_r]
        · unfold rgT; simp (disch := omega) only [u2_r]
        · unfold rgT; simp (disch := omega) only [u2_r]
        · unfold rgT; simp (disch := omega) only [u2_r]
        · unfold rgT; simp (disch := omega) only [u2_r]
        · unfold rgT; simp (disch := omega) only [u2_r]
        · intro k h1; unfold G2; simp (disch := omega) only [u2_r]
      · rw [if_neg h3] at K
        simp (disch := omega) only [↓s_C_ring_21, ↓s_C_ring_23, ↓s_C_ring_24, ↓s_C_ring_25, ↓s_C_ring_28, ↓s_C_ring_31, ↓s_C_ring_33, ↓s_C_ring_36, ↓s_C_ring_38, e1, nI_leI, nI_ltI, nI_eq, N_z, nI_add, pk_sub, pk_mul, kL_i, kL_r, kL_d, kL_l, kL_k, kL_f, Option.toList_some, Option.toList_none, List.cons_append, List.nil_append, bI_z, N_and, N_or, N_shl, N_shr, Nat.one_mul, Nat.reduceAdd, lg_cmp_eq, L_and, L_or, bI_1, bI_0, if_true, if_false, reduceIte, N_m1x, ite_not, h3]
        exact K _ _ (CR_G2 c) (fun k hk => G2_c hk) (fun _ _ => rfl)
    · rw [if_neg h2]
      rw [if_neg (fun z => h2 z.2)] at K
      exact K _ _ (CR_G2 c) (fun k hk => G2_c hk) (fun _ _ => rfl)
  · rw [if_neg h1]
    rw [if_neg (fun z => h1 z.1)] at K
    exact K _ _ (CR_G2 c) (fun k hk => G2_c hk) (fun _ _ => rfl)
theorem MR_new {σ2 : ST} {t2 : Nat → Nat} {n2 : Nat} (c : MR t n σ τ g hj) (h1 : rdL g2 51 0 52 t2 n2) (h2 : M0 σ2 g2 hj2) (h3 : g2 51 13 = nI 0) (e : g2 51 45 = g 51 45) (e2 : ∀ k, 81 ≤ k → k ≤ 84 → g2 k = g k) : MR t2 n2 σ2 τ g2 hj2 :=
  ⟨h1, h2, Or.inl h3, MS_cg c.2.2.2 e e2⟩
theorem p_M_ring (c : MR t n σ τ g hj) (K : KM g hj Q (rgS t n σ τ)) : cwp X (d + 3) m_M_ring [.ref 51] (HP g hj) Q := by
  simp only [e_M_ring, ↓s_M_ring_0, ↓s_M_ring_1]
  refine c_M_faultR c (fun g' c' e1 e2 e3 => ?_)
  obtain ⟨q1, q2, q3, q4⟩ := id c'.1
  have w := c'.2.1.1
  have w2 := w.2.1.1
  obtain ⟨s1, s2, s3⟩ := sc_ok (t := t) (n := n)
  have e0 := c'.2.1.2.1.1
  unfold rgS at K
  simp (disch := omega) only [↓s_M_ring_4, ↓s_M_ring_5, ↓s_M_ring_8, ↓s_M_ring_9, ↓s_M_ring_12, ↓s_M_ring_15, ↓s_M_ring_17, nI_leI, nI_ltI, nI_eq, N_z, nI_add, pk_sub, pk_mul, kL_i, kL_r, kL_d, kL_l, kL_k, kL_f, Option.toList_some, Option.toList_none, List.cons_append, List.nil_append, bI_z, N_and, N_or, N_shl, N_shr, Nat.one_mul, Nat.reduceAdd, lg_cmp_eq, L_and, L_or, bI_1, bI_0, if_true, if_false, reduceIte, N_m1x, ite_not, e3]
  by_cases h1 : (sc t n).1 = -1
  · rw [if_pos h1]
    by_cases h2 : (sc t n).2.2 = 0
    · rw [if_pos h2]
      rw [if_pos ⟨h1, h2⟩] at K
      by_cases h3 : σ 2 0 < 6
      · rw [if_pos h3] at K
        simp (disch := omega) only [↓s_M_ring_18, ↓s_M_ring_19, ↓s_M_ring_22, ↓s_M_ring_24, ↓s_M_ring_27, ↓s_M_ring_29, ↓s_M_ring_30, ↓s_M_ring_31, ↓s_M_ring_34, ↓s_M_ring_35, ↓s_M_ring_38, ↓s_M_ring_39, ↓s_M_ring_42, ↓s_M_ring_43, ↓s_M_ring_44, ↓s_M_ring_47, ↓s_M_ring_48, ↓s_M_ring_51, ↓s_M_ring_52, ↓s_M_ring_53, ↓s_M_ring_54, ↓s_M_ring_57, ↓s_M_ring_58, ↓s_M_ring_61, ↓s_M_ring_62, ↓s_M_ring_63, ↓s_M_ring_64, ↓s_M_ring_65, ↓s_M_ring_68, ↓s_M_ring_69, ↓s_M_ring_70, ↓s_M_ring_73, ↓s_M_ring_74, ↓s_M_ring_75, ↓s_M_ring_78, ↓s_M_ring_79, ↓s_M_ring_80_0, ↓s_M_ring_80_1, ↓s_M_ring_83, ↓s_M_ring_84, ↓s_M_ring_87, ↓s_M_ring_88, ↓s_M_ring_89, e0, e2, nI_leI, nI_ltI, nI_eq, N_z, nI_add, pk_sub, pk_mul, kL_i, kL_r, kL_d, kL_l, kL_k, kL_f, Option.toList_some, Option.toList_none, List.cons_append, List.nil_append, bI_z, N_and, N_or, N_shl, N_shr, Nat.one_mul, Nat.reduceAdd, lg_cmp_eq, L_and, L_or, bI_1, bI_0, if_true, if_false, reduceIte, N_m1x, ite_not, u2_s, u2_n, u2_m, Nat.add_sub_cancel]
        rw [if_neg (by omega)]
        refine K _ _ (MR_new (σ2 := rgT σ (sc t n).2.1) (t2 := t) (n2 := 0) c' ⟨?_, by omega, fun i hi => absurd hi (Nat.not_lt_zero i), q4⟩ ⟨WF_rg w h3 s1, ?_, ?_, ?_⟩ ?_ ?_ (fun k h1 h2 => by simp (disch := omega) only [u2_r])) ?_ (fun _ _ => rfl)
        · simp (disch := omega) only [u2_s, u2_n, u2_m]
        · unfold rgT
          refine ⟨?_, fun r hr => ?_⟩
          · simp (disch := omega) only [u2_s, u2_n, u2_m]
          · simp (disch := omega) only [u2_s, u2_n, u2_m] at hr ⊢
            by_cases e : r = σ 2 0
            · subst e
              simp (disch := omega) only [u2_s, u2_n, u2_m]
              exact ⟨trivial, rfl, rfl⟩
            · simp (disch := omega) only [u2_s, u2_n, u2_m]
              exact c'.2.1.2.1.2 r (by omega)
        · have := c'.2.1.2.2.1
          unfold rgT rdHm at *
          simp (disch := omega) only [u2_s, u2_n, u2_m]
          exact this
        · have := c'.2.1.2.2.2
          unfold rgT rdLm at *
          simp (disch := omega) only [u2_s, u2_n, u2_m]
          exact this
        · simp (disch := omega) only [u2_s, u2_n, u2_m]
        · simp (disch := omega) only [u2_s, u2_n, u2_m]
        · intro k hk; simp (disch := omega) only [u2_r]; exact e1 k hk
      · rw [if_neg h3] at K
        simp (disch := omega) only [↓s_M_ring_18, ↓s_M_ring_19, ↓s_M_ring_22, ↓s_M_ring_24, ↓s_M_ring_27, ↓s_M_ring_29, e0, nI_leI, nI_ltI, nI_eq, N_z, nI_add, pk_sub, pk_mul, kL_i, kL_r, kL_d, kL_l, kL_k, kL_f, Option.toList_some, Option.toList_none, List.cons_append, List.nil_append, bI_z, N_and, N_or, N_shl, N_shr, Nat.one_mul, Nat.reduceAdd, lg_cmp_eq, L_and, L_or, bI_1, bI_0, if_true, if_false, reduceIte, N_m1x, ite_not]
        rw [if_pos (by omega)]
        exact K _ _ c' e1 (fun _ _ => rfl)
    · rw [if_neg h2]
      rw [if_neg (fun z => h2 z.2)] at K
      exact K _ _ c' e1 (fun _ _ => rfl)
  · rw [if_neg h1]
    rw [if_neg (fun z => h1 z.1)] at K
    exact K _ _ c' e1 (fun _ _ => rfl)
theorem WF_an {r o y : Nat} (w : WF σ) (hr : r < σ 2 0) (ho : o < r) (hy : y < 60) : WF (anT σ r o y) := by
  obtain ⟨w1, ⟨w2, w3⟩, ⟨w4, w5⟩, w6, w7, w8, w9⟩ := w
  unfold anT
  refine ⟨?_, ⟨?_, fun x hx => ?_⟩, ⟨?_, fun h hh => ?_⟩, ?_, ?_, ?_, ?_⟩
  · simp (disch := omega) only [u2_r]; exact w1
  · simp (disch := omega) only [u2_s, u2_n, u2_m]; omega
  · simp (disch := omega) only [u2_s, u2_n, u2_m] at hx ⊢
    by_cases e : x = r
    · subst e
      simp (disch := omega) only [u2_s, u2_n, u2_m]
      exact ⟨(w3 x hx).1, by omega, by omega, by omega⟩
    · simp (disch := omega) only [u2_s, u2_n, u2_m]
      exact w3 x hx
  · simp (disch := omega) only [u2_s, u2_n, u2_m]; exact w4
  · simp (disch := omega) only [u2_s, u2_n, u2_m] at hh ⊢
    exact w5 h hh
  · simp (disch := omega) only [u2_r]; exact w6
  · simp (disch := omega) only [u2_r]; exact w7
  · simp (disch := omega) only [u2_r]; exact w8
  · simp (disch := omega) only [u2_r]; exact w9
theorem p_C_anew (c : CR t n σ τ g hj) (K : KC g hj Q (anS t n σ τ a1 a2 a3)) : cwp X (d + 3) m_C_anew [.ref 0, .int a1, .int a2, .int a3] (HP g hj) Q := by
  have w := c.2.1.1
  have w2 := w.2.1.1
  unfold anS at K
  simp only [e_C_anew, ↓s_C_anew_0, ↓s_C_anew_1, ↓s_C_anew_2, ↓s_C_anew_5, ↓s_C_anew_8, ↓s_C_anew_9, ↓s_C_anew_10, ↓s_C_anew_13, ↓s_C_anew_16, ↓s_C_anew_17, ↓s_C_anew_18, ↓s_C_anew_21, ↓s_C_anew_22, ↓s_C_anew_25, ↓s_C_anew_28, ↓s_C_anew_30, c_C_isRing c.2.1, c_C_isDay, nI_leI, nI_ltI, nI_eq, N_z, nI_add, pk_sub, pk_mul, kL_i, kL_r, kL_d, kL_l, kL_k, kL_f, Option.toList_some, Option.toList_none, List.cons_append, List.nil_append, bI_z, N_and, N_or, N_shl, N_shr, Nat.one_mul, Nat.reduceAdd, lg_cmp_eq, L_and, L_or, bI_1, bI_0, if_true, if_false, reduceIte, N_m1x, ite_not]
  by_cases h1 : inR a1 (σ 2 0)
  case neg =>
    rw [if_neg (fun z => h1 z.1)] at K
    rw [if_neg h1]
    exact KC_0 c K
  obtain ⟨r, hr, rfl⟩ := inR_n h1 (by omega)
  rw [nn_n (by omega)] at K
  rw [if_pos h1]
  by_cases h2 : inR a2 (σ 2 0)
  case neg =>
    rw [if_neg (fun z => by obtain ⟨o, ho, rfl⟩ := inR_n z.2.1 (by omega); exact h2 (inR_k (by omega) (by omega)))] at K
    rw [if_neg h2]
    exact KC_0 c K
  obtain ⟨o, ho, rfl⟩ := inR_n h2 (by omega)
  rw [nn_n (by omega)] at K
  rw [if_pos h2]
  simp (disch := omega) only [nI_leI]
  by_cases h3 : r ≤ o
  · rw [if_neg (fun z => by obtain ⟨x, hx, e⟩ := inR_n z.2.1 (by omega); rw [nI_eq (by omega) (by omega)] at e; omega)] at K
    rw [if_pos h3]
    exact KC_0 c K
  rw [if_neg h3]
  by_cases h4 : inR a3 60
  case neg =>
    rw [if_neg (fun z => h4 z.2.2)] at K
    rw [if_neg h4]
    exact KC_0 c K
  obtain ⟨y, hy, rfl⟩ := inR_n h4 (by omega)
  rw [nn_n (by omega)] at K
  rw [if_pos h4]
  rw [if_pos ⟨h1, inR_k (by omega) (by omega), h4⟩] at K
  obtain ⟨f1, f2, f3⟩ := c.2.1.2.1.2 r hr
  have f4 := (w.2.1.2 r hr).2.1
  have f5 : nwr σ o ≤ 0 + σ 2 0 := fst1_le _ _ _
  simp (disch := omega) only [↓s_C_anew_31, ↓s_C_anew_32, ↓s_C_anew_35, ↓s_C_anew_38, ↓s_C_anew_39, ↓s_C_anew_40, ↓s_C_anew_41, ↓s_C_anew_44, ↓s_C_anew_45, ↓s_C_anew_48, ↓s_C_anew_49, ↓s_C_anew_52, ↓s_C_anew_53, ↓s_C_anew_56, ↓s_C_anew_58, c_Rings_newerThan w c.2.1.2.1, nI_leI, nI_ltI, nI_eq, N_z, nI_add, pk_sub, pk_mul, kL_i, kL_r, kL_d, kL_l, kL_k, kL_f, Option.toList_some, Option.toList_none, List.cons_append, List.nil_append, bI_z, N_and, N_or, N_shl, N_shr, Nat.one_mul, Nat.reduceAdd, lg_cmp_eq, L_and, L_or, bI_1, bI_0, if_true, if_false, reduceIte, N_m1x, ite_not, f2, oI_m1]
  by_cases h5 : σ 4 r = 0
  case neg =>
    rw [if_neg (fun z => h5 z.1)] at K
    rw [if_neg h5]
    exact KC_0 c K
  rw [if_pos h5]
  by_cases h6 : nwr σ o = 0
  case neg =>
    rw [if_neg (fun z => h6 z.2)] at K
    rw [if_neg h6]
    exact KC_0 c K
  rw [if_pos h6]
  rw [if_pos ⟨h5, h6⟩] at K
  simp (disch := omega) only [↓s_C_anew_59, ↓s_C_anew_60, ↓s_C_anew_63, ↓s_C_anew_66, ↓s_C_anew_67, ↓s_C_anew_68, ↓s_C_anew_69, ↓s_C_anew_70, ↓s_C_anew_73, ↓s_C_anew_76, ↓s_C_anew_77, ↓s_C_anew_78, ↓s_C_anew_79, ↓s_C_anew_80, ↓s_C_anew_83, ↓s_C_anew_86, ↓s_C_anew_87, c_forget, nI_leI, nI_ltI, nI_eq, N_z, nI_add, pk_sub, pk_mul, kL_i, kL_r, kL_d, kL_l, kL_k, kL_f, Option.toList_some, Option.toList_none, List.cons_append, List.nil_append, bI_z, N_and, N_or, N_shl, N_shr, Nat.one_mul, Nat.reduceAdd, lg_cmp_eq, L_and, L_or, bI_1, bI_0, if_true, if_false, reduceIte, N_m1x, ite_not]
  refine K _ _ (CR_rings (σ2 := anT σ r o y) (t2 := t) (n2 := n) c (rdL_cg c.1 ?_ ?_) ⟨WF_an w hr (by omega) hy, ?_, ?_, ?_⟩ ?_ ?_ ?_ ?_ ?_ ?_ ?_ ?_ ?_) (fun k h1 => by simp (disch := omega) only [u2_r]) (fun _ _ => rfl)
  · simp (disch := omega) only [u2_s, u2_n, u2_m]
  · simp (disch := omega) only [u2_r]
  · unfold anT
    refine ⟨?_, fun x hx => ?_⟩
    · simp (disch := omega) only [u2_s, u2_n, u2_m]; exact c.2.1.2.1.1
    · simp (disch := omega) only [u2_s, u2_n, u2_m] at hx ⊢
      by_cases e : x = r
      · subst e
        simp (disch := omega) only [u2_s, u2_n, u2_m]
        exact ⟨f1, rfl, rfl⟩
      · simp (disch := omega) only [u2_s, u2_n, u2_m]
        exact c.2.1.2.1.2 x hx
  · have := c.2.1.2.2.1
    unfold anT rdHc at *
    simp (disch := omega) only [u2_s, u2_n, u2_m, u2_r]
    exact this
  · have := c.2.1.2.2.2
    unfold anT rdLu wh bl nob at *
    simp (disch := omega) only [u2_r, u2_s, u2_n, u2_m]
    exact this
  · simp (disch := omega) only [u2_s, u2_n, u2_m]
  · exact (fun k h1 h2 => by simp (disch := omega) only [u2_r])
  · show pl (anT σ _ _ _) (anT σ _ _ _ 11 0) = _
    rw [pl_cg (σ := σ) (by unfold anT; simp (disch := omega) only [u2_r])]
    unfold anT; simp (disch := omega) only [u2_r]
  · unfold anT; simp (disch := omega) only [u2_r]
  · unfold anT; simp (disch := omega) only [u2_r]
  · unfold anT; simp (disch := omega) only [u2_r]
  · unfold anT; simp (disch := omega) only [u2_r]
  · unfold anT; simp (disch := omega) only [u2_r]
  · unfold anT; simp (disch := omega) only [u2_r]
theorem p_M_anew (c : MR t n σ τ g hj) (K : KM g hj Q (anS t n σ τ a1 a2 a3)) : cwp X (d + 3) m_M_anew [.ref 51, .int a1, .int a2, .int a3] (HP g hj) Q := by
  have w := c.2.1.1
  have w2 := w.2.1.1
  unfold anS at K
  simp only [e_M_anew, ↓s_M_anew_0, ↓s_M_anew_1, ↓s_M_anew_2, ↓s_M_anew_5, c_M_isRing c.2.1, nI_leI, nI_ltI, nI_eq, N_z, nI_add, pk_sub, pk_mul, kL_i, kL_r, kL_d, kL_l, kL_k, kL_f, Option.toList_some, Option.toList_none, List.cons_append, List.nil_append, bI_z, N_and, N_or, N_shl, N_shr, Nat.one_mul, Nat.reduceAdd, lg_cmp_eq, L_and, L_or, bI_1, bI_0, if_true, if_false, reduceIte, N_m1x, ite_not]
  by_cases h1 : inR a1 (σ 2 0)
  case neg =>
    rw [if_neg (fun z => h1 z.1)] at K
    rw [if_neg h1]
    simp only [↓s_M_anew_26, ↓s_M_anew_28]
    exact KM_0 c K
  obtain ⟨r, hr, rfl⟩ := inR_n h1 (by omega)
  rw [nn_n (by omega)] at K
  rw [if_pos h1]
  simp (disch := omega) only [↓s_M_anew_8, ↓s_M_anew_9, ↓s_M_anew_10, ↓s_M_anew_11, ↓s_M_anew_12, ↓s_M_anew_13, ↓s_M_anew_16, ↓s_M_anew_19, ↓s_M_anew_20, ↓s_M_anew_23, ↓s_M_anew_26, ↓s_M_anew_28, c_M_in, Option.toList_some, List.cons_append, List.nil_append, in_R, bI_z, ite_not, c_M_isDay]
  by_cases h2 : inR a2 r
  case neg =>
    rw [if_neg (fun z => h2 z.2.1)] at K
    rw [if_neg h2]
    exact KM_0 c K
  obtain ⟨o, ho, rfl⟩ := inR_n h2 (by omega)
  rw [nn_n (by omega)] at K
  rw [if_pos h2]
  by_cases h4 : inR a3 60
  case neg =>
    rw [if_neg (fun z => h4 z.2.2)] at K
    rw [if_neg h4]
    exact KM_0 c K
  obtain ⟨y, hy, rfl⟩ := inR_n h4 (by omega)
  rw [nn_n (by omega)] at K
  rw [if_pos h4]
  rw [if_pos ⟨h1, h2, h4⟩] at K
  obtain ⟨f1, f2, f3⟩ := c.2.1.2.1.2 r hr
  have f4 := (w.2.1.2 r hr).2.1
  have f5 : nwr σ o ≤ 0 + σ 2 0 := fst1_le _ _ _
  simp (disch := omega) only [↓s_M_anew_29, ↓s_M_anew_30, ↓s_M_anew_33, ↓s_M_anew_34, ↓s_M_anew_35, ↓s_M_anew_36, ↓s_M_anew_39, ↓s_M_anew_40, ↓s_M_anew_41, ↓s_M_anew_44, ↓s_M_anew_45, ↓s_M_anew_48, ↓s_M_anew_50, c_M_newer w c.2.1.2.1, nI_leI, nI_ltI, nI_eq, N_z, nI_add, pk_sub, pk_mul, kL_i, kL_r, kL_d, kL_l, kL_k, kL_f, Option.toList_some, Option.toList_none, List.cons_append, List.nil_append, bI_z, N_and, N_or, N_shl, N_shr, Nat.one_mul, Nat.reduceAdd, lg_cmp_eq, L_and, L_or, bI_1, bI_0, if_true, if_false, reduceIte, N_m1x, ite_not, f2, oI_m1]
  by_cases h5 : σ 4 r = 0
  case neg =>
    rw [if_neg (fun z => h5 z.1)] at K
    rw [if_neg h5]
    exact KM_0 c K
  rw [if_pos h5]
  by_cases h6 : nwr σ o = 0
  case neg =>
    rw [if_neg (fun z => h6 z.2)] at K
    rw [if_neg h6]
    exact KM_0 c K
  rw [if_pos h6]
  rw [if_pos ⟨h5, h6⟩] at K
  simp (disch := omega) only [↓s_M_anew_51, ↓s_M_anew_52, ↓s_M_anew_55, ↓s_M_anew_56, ↓s_M_anew_57, ↓s_M_anew_58, ↓s_M_anew_59, ↓s_M_anew_62, ↓s_M_anew_63, ↓s_M_anew_64, ↓s_M_anew_65, ↓s_M_anew_66, ↓s_M_anew_67_0, ↓s_M_anew_67_1, ↓s_M_anew_70, ↓s_M_anew_71, nI_leI, nI_ltI, nI_eq, N_z, nI_add, pk_sub, pk_mul, kL_i, kL_r, kL_d, kL_l, kL_k, kL_f, Option.toList_some, Option.toList_none, List.cons_append, List.nil_append, bI_z, N_and, N_or, N_shl, N_shr, Nat.one_mul, Nat.reduceAdd, lg_cmp_eq, L_and, L_or, bI_1, bI_0, if_true, if_false, reduceIte, N_m1x, ite_not]
  refine K _ _ (MR_new (σ2 := anT σ r o y) (t2 := t) (n2 := n) c (rdL_cg c.1 ?_ ?_) ⟨WF_an w hr (by omega) hy, ?_, ?_, ?_⟩ ?_ ?_ (fun k h1 h2 => by simp (disch := omega) only [u2_r])) (fun k h1 => by simp (disch := omega) only [u2_r]) (fun _ _ => rfl)
  · simp (disch := omega) only [u2_s, u2_n, u2_m]
  · simp (disch := omega) only [u2_r]
  · unfold anT
    refine ⟨?_, fun x hx => ?_⟩
    · simp (disch := omega) only [u2_s, u2_n, u2_m]; exact c.2.1.2.1.1
    · simp (disch := omega) only [u2_s, u2_n, u2_m] at hx ⊢
      by_cases e : x = r
      · subst e
        simp (disch := omega) only [u2_s, u2_n, u2_m]
        exact ⟨f1, rfl, rfl⟩
      · simp (disch := omega) only [u2_s, u2_n, u2_m]
        exact c.2.1.2.1.2 x hx
  · have := c.2.1.2.2.1
    unfold anT rdHm at *
    simp (disch := omega) only [u2_s, u2_n, u2_m]
    exact this
  · have := c.2.1.2.2.2
    unfold anT rdLm at *
    simp (disch := omega) only [u2_s, u2_n, u2_m]
    exact this
  · simp (disch := omega) only [u2_s, u2_n, u2_m]
  · simp (disch := omega) only [u2_s, u2_n, u2_m]
end ACTS2
