/-! ring, anew, held, aside -/
section ACTS2
variable {X : AX} {d : Nat} {Q : Option Value → AH → Prop} {g g2 : Nat → Nat → Int32} {hj hj2 : Nat → Nat → Int64} {σ τ : ST} {a b a1 a2 a3 a4 : Int32} {t : Nat → Nat} {n : Nat} {h : AH}
theorem c_forget : cwp X d m_Ways_forget [.ref 19] (HP g hj) Q = Q none (HP (up2 g 19 10 (nI 0)) hj) := by
  simp only [e_Ways_forget, ↓s_Ways_forget_0, ↓s_Ways_forget_1, ↓s_Ways_forget_2_0, ↓s_Ways_forget_2_1, ↓s_Ways_forget_5]
theorem c_forgetLumps : cwp X (d + 1) m_C_forgetLumps [.ref 0] (HP g hj) Q = Q none (HP (up2 (up2 g 19 10 (nI 0)) 42 7 (nI 0)) hj) := by
  simp only [e_C_forgetLumps, ↓s_C_forgetLumps_0, ↓s_C_forgetLumps_1, ↓s_C_forgetLumps_4, ↓s_C_forgetLumps_7, ↓s_C_forgetLumps_8, ↓s_C_forgetLumps_11, ↓s_C_forgetLumps_14, c_forget, e_Strangers_forget, ↓s_Strangers_forget_0, ↓s_Strangers_forget_1, ↓s_Strangers_forget_2_0, ↓s_Strangers_forget_2_1, ↓s_Strangers_forget_5, nI_leI, nI_ltI, nI_eq, N_z, nI_add, pk_sub, pk_mul, kL_i, kL_r, kL_d, kL_l, kL_k, kL_f, Option.toList_some, Option.toList_none, List.cons_append, List.nil_append, bI_z, N_and, N_or, N_shl, N_shr, Nat.one_mul, Nat.reduceAdd, lg_cmp_eq, L_and, L_or, bI_1, bI_0, if_true, if_false, reduceIte, N_m1x, ite_not]
/-- after a change that leaves lumps alone -/
theorem CR_rings {σ2 : ST} {t2 : Nat → Nat} {n2 : Nat} (c : CR t n σ τ g hj) (h1 : rdL g2 1 1 2 t2 n2) (h2 : C0 σ2 g2 hj2) (h3 : g2 19 10 = nI 0) (e : ∀ k, 20 ≤ k → k ≤ 50 → g2 k = g k) (e3 : PL σ2 = PL σ) (e11 : σ2 11 = σ 11) (e12 : σ2 12 = σ 12) (e13 : σ2 13 = σ 13) (e14 : σ2 14 = σ 14) (e15 : σ2 15 = σ 15) (e18 : σ2 18 = σ 18) : CR t2 n2 σ2 τ g2 hj2 := by
  refine ⟨h1, h2, ⟨GE_cg c.2.2.1.1 (fun k _ _ => e k (by omega) (by omega)), Or.inl h3⟩, ?_, CS_cg c.2.2.2.2 (fun k _ _ => e k (by omega) (by omega))⟩
  have hk := CG_cg (g2 := g2) c.2.2.2.1 (fun k _ _ => e k (by omega) (by omega))
  unfold CG LR VR jn jnt bl wh nob at hk ⊢
  rw [e3, e11, e12, e13, e14, e15, e18]
  exact hk
theorem pl_cg {σ2 : ST} (e18 : σ2 18 = σ 18) : ∀ m, pl σ2 m = pl σ m
  | 0 => rfl
  | m + 1 => by
    unfold pl
    rw [e18, pl_cg e18 m]
theorem WF_rg {mk : Nat} (w : WF σ) (h6 : σ 2 0 < 6) (hm : mk < 65536) : WF (rgT σ mk) := by
  obtain ⟨w1, ⟨w2, w3⟩, ⟨w4, w5⟩, w6, w7, w8, w9⟩ := w
  unfold rgT
  refine ⟨?_, ⟨?_, fun r hr => ?_⟩, ⟨?_, fun h hh => ?_⟩, ?_, ?_, ?_, ?_⟩
  · simp (disch := omega) only [u2_r]; exact w1
  · simp (disch := omega) only [u2_s, u2_n, u2_m]; omega
  · simp (disch := omega) only [u2_s, u2_n, u2_m] at hr ⊢
    by_cases e : r = σ 2 0
    · subst e
      simp (disch := omega) only [u2_s, u2_n, u2_m]
      exact ⟨hm, by omega, by omega, by simp⟩
    · simp (disch := omega) only [u2_s, u2_n, u2_m]
      exact w3 r (by omega)
  · simp (disch := omega) only [u2_s, u2_n, u2_m]; exact w4
  · simp (disch := omega) only [u2_s, u2_n, u2_m] at hh ⊢
    have := w5 h hh
    exact ⟨by omega, this.2⟩
  · simp (disch := omega) only [u2_r]; exact w6
  · simp (disch := omega) only [u2_r]; exact w7
  · simp (disch := omega) only [u2_r]; exact w8
  · simp (disch := omega) only [u2_r]; exact w9
theorem p_C_ring (c : CR t n σ τ g hj) (K : KC g hj Q (rgS t n σ τ)) : cwp X (d + 3) m_C_ring [.ref 0] (HP g hj) Q := by
  obtain ⟨q1, q2, q3, q4⟩ := id c.1
  have w := c.2.1.1
  have w2 := w.2.1.1
  obtain ⟨s1, s2, s3⟩ := sc_ok (t := t) (n := n)
  have e0 := c.2.1.2.1.1
  unfold rgS at K
  have z2 : (nI (sc t n).2.2 = 0) = ((sc t n).2.2 = 0) := propext (N_z (by omega))
  simp (disch := omega) only [e_C_ring, ↓s_C_ring_0, ↓s_C_ring_1, ↓s_C_ring_4, ↓s_C_ring_7, ↓s_C_ring_8, ↓s_C_ring_11, ↓s_C_ring_12, ↓s_C_ring_15, ↓s_C_ring_18, ↓s_C_ring_21, ↓s_C_ring_23, c_Line_fault c.1, nI_leI, nI_ltI, nI_eq, N_z, nI_add, pk_sub, pk_mul, kL_i, kL_r, kL_d, kL_l, kL_k, kL_f, Option.toList_some, Option.toList_none, List.cons_append, List.nil_append, bI_z, N_and, N_or, N_shl, N_shr, Nat.one_mul, Nat.reduceAdd, lg_cmp_eq, L_and, L_or, bI_1, bI_0, if_true, if_false, reduceIte, N_m1x, ite_not, G2_j, G2_i, z2]
  by_cases h1 : (sc t n).1 = -1
  · rw [if_pos h1]
    by_cases h2 : (sc t n).2.2 = 0
    · rw [if_pos h2]
      rw [if_pos ⟨h1, h2⟩] at K
      have e1 : G2 g 1 2 3 (nI (sc t n).2.1) (nI (sc t n).2.2) 3 3 = nI (σ 2 0) := by rw [G2_n (by omega)]; exact e0
      by_cases h3 : σ 2 0 < 6
      · rw [if_pos h3] at K
        simp (disch := omega) only [↓s_C_ring_21, ↓s_C_ring_23, ↓s_C_ring_24, ↓s_C_ring_25, ↓s_C_ring_28, ↓s_C_ring_31, ↓s_C_ring_33, ↓s_C_ring_36, ↓s_C_ring_38, ↓s_C_ring_39, ↓s_C_ring_40, ↓s_C_ring_43, ↓s_C_ring_44, ↓s_C_ring_47, ↓s_C_ring_50, ↓s_C_ring_53, ↓s_C_ring_54, ↓s_C_ring_55, ↓s_C_ring_58, ↓s_C_ring_61, ↓s_C_ring_62, ↓s_C_ring_63, ↓s_C_ring_66, ↓s_C_ring_69, ↓s_C_ring_70, e1, nI_leI, nI_ltI, nI_eq, N_z, nI_add, pk_sub, pk_mul, kL_i, kL_r, kL_d, kL_l, kL_k, kL_f, Option.toList_some, Option.toList_none, List.cons_append, List.nil_append, bI_z, N_and, N_or, N_shl, N_shr, Nat.one_mul, Nat.reduceAdd, lg_cmp_eq, L_and, L_or, bI_1, bI_0, if_true, if_false, reduceIte, N_m1x, ite_not, h3, e_Rings_add, ↓s_Rings_add_0, ↓s_Rings_add_1, ↓s_Rings_add_4, ↓s_Rings_add_5, ↓s_Rings_add_6, ↓s_Rings_add_9, ↓s_Rings_add_10, ↓s_Rings_add_11, ↓s_Rings_add_12, ↓s_Rings_add_13, ↓s_Rings_add_16, ↓s_Rings_add_17, ↓s_Rings_add_18, ↓s_Rings_add_19, ↓s_Rings_add_20, ↓s_Rings_add_23, ↓s_Rings_add_24, ↓s_Rings_add_25, ↓s_Rings_add_26, ↓s_Rings_add_27, ↓s_Rings_add_28, ↓s_Rings_add_31, ↓s_Rings_add_32, ↓s_Rings_add_33, ↓s_Rings_add_36, ↓s_Rings_add_37, e_Line_clear, ↓s_Line_clear_0, ↓s_Line_clear_1, ↓s_Line_clear_4, ↓s_Line_clear_5, ↓s_Line_clear_6, ↓s_Line_clear_7, ↓s_Line_clear_10, ↓s_Line_clear_11, c_forget, u2_s, u2_n, u2_m, G2_i]
        refine K _ _ (CR_rings (σ2 := rgT σ (sc t n).2.1) (t2 := t) (n2 := 0) c ⟨?_, by omega, fun i hi => absurd hi (Nat.not_lt_zero i), q4⟩ ⟨WF_rg w h3 s1, ?_, ?_, ?_⟩ ?_ ?_ ?_ ?_ ?_ ?_ ?_ ?_ ?_) ?_ (fun _ _ => rfl)
        · simp (disch := omega) only [u2_s, u2_n, u2_m]
        · unfold rgT
          refine ⟨?_, fun r hr => ?_⟩
          · simp (disch := omega) only [u2_s, u2_n, u2_m]
          · simp (disch := omega) only [u2_s, u2_n, u2_m] at hr ⊢
            by_cases e : r = σ 2 0
            · subst e
              simp (disch := omega) only [u2_s, u2_n, u2_m]
              exact ⟨trivial, rfl, rfl⟩
            · simp (disch := omega) only [u2_s, u2_n, u2_m, G2_n]
              exact c.2.1.2.1.2 r (by omega)
        · have := c.2.1.2.2.1
          unfold rgT rdHc at *
          simp (disch := omega) only [u2_s, u2_n, u2_m, u2_r, G2_n]
          exact this
        · have := c.2.1.2.2.2
          unfold rgT rdLu wh bl nob at *
          simp (disch := omega) only [u2_r, u2_s, u2_n, u2_m, G2_n]
          exact this
        · simp (disch := omega) only [u2_s, u2_n, u2_m]
        · intro k h1 h2; unfold G2; simp (disch := omega) only [u2_r]
        · show pl (rgT σ _) (rgT σ _ 11 0) = _
          rw [pl_cg (σ := σ) (by unfold rgT; simp (disch := omega) only [u2_r])]
          unfold rgT; simp (disch := omega) only [u2_r]
        · unfold rgT; simp (disch := omega) only [u2_r]
        · unfold rgT; simp (disch := omega) only [u2_r]
        · unfold rgT; simp (disch := omega) only [u2_r]
        · unfold rgT; simp (disch := omega) only [u2_r]
        · unfold rgT; simp (disch := omega) only [u2_r]
        · unfold rgT; simp (disch := omega) only [u2_r]
        · intro k h1; unfold G2; simp (disch := omega) only [u2_r]
      · rw [if_neg h3] at K
        simp (disch := omega) only [↓s_C_ring_21, ↓s_C_ring_23, ↓s_C_ring_24, ↓s_C_ring_25, ↓s_C_ring_28, ↓s_C_ring_31, ↓s_C_ring_33, ↓s_C_ring_36, ↓s_C_ring_38, e1, nI_leI, nI_ltI, nI_eq, N_z, nI_add, pk_sub, pk_mul, kL_i, kL_r, kL_d, kL_l, kL_k, kL_f, Option.toList_some, Option.toList_none, List.cons_append, List.nil_append, bI_z, N_and, N_or, N_shl, N_shr, Nat.one_mul, Nat.reduceAdd, lg_cmp_eq, L_and, L_or, bI_1, bI_0, if_true, if_false, reduceIte, N_m1x, ite_not, h3]
        exact K _ _ (CR_G2 c) (fun k hk => G2_c hk) (fun _ _ => rfl)
    · rw [if_neg h2]
      rw [if_neg (fun z => h2 z.2)] at K
      exact K _ _ (CR_G2 c) (fun k hk => G2_c hk) (fun _ _ => rfl)
  · rw [if_neg h1]
    rw [if_neg (fun z => h1 z.1)] at K
    exact K _ _ (CR_G2 c) (fun k hk => G2_c hk) (fun _ _ => rfl)
end ACTS2
