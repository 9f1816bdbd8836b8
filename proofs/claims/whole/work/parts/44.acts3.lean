/-! held, aside -/
section ACTS3
variable {X : AX} {d : Nat} {Q : Option Value → AH → Prop} {g g2 : Nat → Nat → Int32} {hj hj2 : Nat → Nat → Int64} {σ τ : ST} {a b a1 a2 a3 a4 : Int32} {t : Nat → Nat} {n : Nat} {h : AH}
theorem c_C_areDays : cwp X (d + 2) m_C_areDays [.int a, .int b] h Q = Q (some (.int (bI (inR a 60 ∧ inR b 60 ∧ nn a ≤ nn b)))) h := by
  simp only [e_C_areDays, ↓s_C_areDays_0, ↓s_C_areDays_1, ↓s_C_areDays_4, ↓s_C_areDays_7, ↓s_C_areDays_8, ↓s_C_areDays_11, ↓s_C_areDays_14, ↓s_C_areDays_15, ↓s_C_areDays_16, ↓s_C_areDays_19, ↓s_C_areDays_20, ↓s_C_areDays_23, ↓s_C_areDays_24_0, ↓s_C_areDays_24_1, ↓s_C_areDays_24_b, c_C_isDay, nI_leI, nI_ltI, nI_eq, N_z, nI_add, pk_sub, pk_mul, kL_i, kL_r, kL_d, kL_l, kL_k, kL_f, Option.toList_some, Option.toList_none, List.cons_append, List.nil_append, bI_z, N_and, N_or, N_shl, N_shr, Nat.one_mul, Nat.reduceAdd, lg_cmp_eq, L_and, L_or, bI_1, bI_0, if_true, if_false, reduceIte, N_m1x, ite_not]
  by_cases h1 : inR a 60
  case neg => rw [if_neg h1, bI_f (fun z => h1 z.1)]
  rw [if_pos h1]
  by_cases h2 : inR b 60
  case neg => rw [if_neg h2, bI_f (fun z => h2 z.2.1)]
  rw [if_pos h2]
  obtain ⟨x, hx, rfl⟩ := inR_n h1 (by omega)
  obtain ⟨y, hy, rfl⟩ := inR_n h2 (by omega)
  simp (disch := omega) only [nI_ltI, nn_n]
  by_cases h3 : y < x
  · rw [if_pos h3, bI_f (fun z => by omega)]
  · rw [if_neg h3, bI_t ⟨h1, h2, by omega⟩]
/-- a day, and one from it on -/
theorem in_day {x : Nat} (hx : x < 60) : (nI x ≤ b ∧ b ≤ nI 59) ↔ (inR b 60 ∧ x ≤ nn b) := by
  constructor
  · rintro ⟨h1, h2⟩
    have h3 : inR b 60 := by
      rw [← inr_eq]
      refine ⟨Int32.le_trans (nI_pos' (by omega)) h1, ?_⟩
      rw [Int32.le_iff_toInt_le, nI_toInt (by omega)] at h2
      rw [Int32.lt_iff_toInt_lt, nI_toInt (by omega)]
      omega
    obtain ⟨y, hy, rfl⟩ := inR_n h3 (by omega)
    rw [nI_leI (by omega) (by omega)] at h1
    rw [nn_n (by omega)]
    exact ⟨h3, h1⟩
  · rintro ⟨h1, h2⟩
    obtain ⟨y, hy, rfl⟩ := inR_n h1 (by omega)
    rw [nn_n (by omega)] at h2
    rw [nI_leI (by omega) (by omega), nI_leI (by omega) (by omega)]
    omega
theorem WF_he {r p f y : Nat} (w : WF σ) (h12 : σ 6 0 < 12) (hr : r < σ 2 0) (hp : p < 8) (hf : f ≤ y) (hy : y < 60) : WF (heT σ r p f y) := by
  obtain ⟨w1, w2, ⟨w4, w5⟩, w6, w7, w8, w9⟩ := w
  unfold heT
  refine ⟨?_, ?_, ⟨?_, fun h hh => ?_⟩, ?_, ?_, ?_, ?_⟩
  · simp (disch := omega) only [u2_r]; exact w1
  · simp (disch := omega) only [u2_r]; exact w2
  · simp (disch := omega) only [u2_s, u2_n, u2_m]; omega
  · simp (disch := omega) only [u2_s, u2_n, u2_m] at hh ⊢
    by_cases e : h = σ 6 0
    · subst e
      simp (disch := omega) only [u2_s, u2_n, u2_m]
      exact ⟨hr, hp, hf, hy⟩
    · simp (disch := omega) only [u2_s, u2_n, u2_m]
      exact w5 h (by omega)
  · simp (disch := omega) only [u2_r]; exact w6
  · simp (disch := omega) only [u2_r]; exact w7
  · simp (disch := omega) only [u2_r]; exact w8
  · simp (disch := omega) only [u2_r]; exact w9
theorem p_C_held (c : CR t n σ τ g hj) (K : KC g hj Q (heS t n σ τ a1 a2 a3 a4)) : cwp X (d + 3) m_C_held [.ref 0, .int a1, .int a2, .int a3, .int a4] (HP g hj) Q := by
  have w := c.2.1.1
  have w2 := w.2.1.1
  have w3 := w.2.2.1.1
  have e0 := c.2.1.2.2.1.1
  unfold heS at K
  simp only [e_C_held, ↓s_C_held_0, ↓s_C_held_1, ↓s_C_held_2, ↓s_C_held_5, ↓s_C_held_8, ↓s_C_held_9, ↓s_C_held_11, ↓s_C_held_14, ↓s_C_held_17, ↓s_C_held_18, ↓s_C_held_20, ↓s_C_held_23, ↓s_C_held_26, ↓s_C_held_28, c_C_isRing c.2.1, c_C_isBelowN, c_C_areDays, nI_leI, nI_ltI, nI_eq, N_z, nI_add, pk_sub, pk_mul, kL_i, kL_r, kL_d, kL_l, kL_k, kL_f, Option.toList_some, Option.toList_none, List.cons_append, List.nil_append, bI_z, N_and, N_or, N_shl, N_shr, Nat.one_mul, Nat.reduceAdd, lg_cmp_eq, L_and, L_or, bI_1, bI_0, if_true, if_false, reduceIte, N_m1x, ite_not]
  by_cases h1 : inR a1 (σ 2 0)
  case neg =>
    rw [if_neg (fun z => h1 z.1)] at K
    rw [if_neg h1]
    exact KC_0 c K
  rw [if_pos h1]
  by_cases h2 : inR a2 8
  case neg =>
    rw [if_neg (fun z => h2 z.2.1)] at K
    rw [if_neg h2]
    exact KC_0 c K
  rw [if_pos h2]
  by_cases h3 : inR a3 60 ∧ inR a4 60 ∧ nn a3 ≤ nn a4
  case neg =>
    rw [if_neg (fun z => h3 z.2.2)] at K
    rw [if_neg h3]
    exact KC_0 c K
  rw [if_pos h3]
  rw [if_pos ⟨h1, h2, h3⟩] at K
  obtain ⟨r, hr, rfl⟩ := inR_n h1 (by omega)
  obtain ⟨p, hp, rfl⟩ := inR_n h2 (by omega)
  obtain ⟨f, hf, rfl⟩ := inR_n h3.1 (by omega)
  obtain ⟨y, hy, rfl⟩ := inR_n h3.2.1 (by omega)
  simp (disch := omega) only [nn_n] at K h3
  by_cases h4 : σ 6 0 < 12
  · rw [if_pos h4] at K
    simp (disch := omega) only [↓s_C_held_29, ↓s_C_held_30, ↓s_C_held_33, ↓s_C_held_36, ↓s_C_held_38, ↓s_C_held_41, ↓s_C_held_43, ↓s_C_held_44, ↓s_C_held_45, ↓s_C_held_48, ↓s_C_held_51, ↓s_C_held_52, ↓s_C_held_55, ↓s_C_held_56, ↓s_C_held_57, ↓s_C_held_58, ↓s_C_held_60, ↓s_C_held_63, ↓s_C_held_66, c_forget, c_C_daysBetween, e_Rings_hold, ↓s_Rings_hold_0, ↓s_Rings_hold_1, ↓s_Rings_hold_4, ↓s_Rings_hold_6, ↓s_Rings_hold_7, ↓s_Rings_hold_10, ↓s_Rings_hold_12, ↓s_Rings_hold_13, ↓s_Rings_hold_14, ↓s_Rings_hold_15, ↓s_Rings_hold_18, ↓s_Rings_hold_20, ↓s_Rings_hold_21, ↓s_Rings_hold_22, ↓s_Rings_hold_23, ↓s_Rings_hold_26, ↓s_Rings_hold_28, ↓s_Rings_hold_29, ↓s_Rings_hold_30, ↓s_Rings_hold_31, ↓s_Rings_hold_32, ↓s_Rings_hold_35, ↓s_Rings_hold_36, ↓s_Rings_hold_37, ↓s_Rings_hold_40, ↓s_Rings_hold_42, nI_leI, nI_ltI, nI_eq, N_z, nI_add, pk_sub, pk_mul, kL_i, kL_r, kL_d, kL_l, kL_k, kL_f, Option.toList_some, Option.toList_none, List.cons_append, List.nil_append, bI_z, N_and, N_or, N_shl, N_shr, Nat.one_mul, Nat.reduceAdd, lg_cmp_eq, L_and, L_or, bI_1, bI_0, if_true, if_false, reduceIte, N_m1x, ite_not, u2_s, u2_n, u2_m, e0, h4]
    refine K _ _ (CR_rings (σ2 := heT σ r p f y) (t2 := t) (n2 := n) c (rdL_cg c.1 ?_ ?_) ⟨WF_he w h4 hr hp h3.2.2 hy, ?_, ?_, ?_⟩ ?_ ?_ ?_ ?_ ?_ ?_ ?_ ?_ ?_) (fun k h1 => by simp (disch := omega) only [u2_r]) (fun k h1 => by simp (disch := omega) only [u2_r])
    · simp (disch := omega) only [u2_s, u2_n, u2_m]
    · simp (disch := omega) only [u2_r]
    · have := c.2.1.2.1
      unfold heT rdR at *
      simp (disch := omega) only [u2_s, u2_n, u2_m]
      exact this
    · unfold heT
      refine ⟨?_, fun x hx => ?_⟩
      · simp (disch := omega) only [u2_s, u2_n, u2_m]
      · simp (disch := omega) only [u2_s, u2_n, u2_m] at hx ⊢
        by_cases e : x = σ 6 0
        · subst e
          simp (disch := omega) only [u2_s, u2_n, u2_m]
          exact ⟨trivial, trivial, trivial⟩
        · simp (disch := omega) only [u2_s, u2_n, u2_m]
          exact c.2.1.2.2.1.2 x (by omega)
    · have := c.2.1.2.2.2
      unfold heT rdLu wh bl nob at *
      simp (disch := omega) only [u2_r, u2_s, u2_n, u2_m]
      exact this
    · simp (disch := omega) only [u2_s, u2_n, u2_m]
    · exact (fun k h1 h2 => by simp (disch := omega) only [u2_r])
    · show pl (heT σ _ _ _ _) (heT σ _ _ _ _ 11 0) = _
      rw [pl_cg (σ := σ) (by unfold heT; simp (disch := omega) only [u2_r])]
      unfold heT; simp (disch := omega) only [u2_r]
    · unfold heT; simp (disch := omega) only [u2_r]
    · unfold heT; simp (disch := omega) only [u2_r]
    · unfold heT; simp (disch := omega) only [u2_r]
    · unfold heT; simp (disch := omega) only [u2_r]
    · unfold heT; simp (disch := omega) only [u2_r]
    · unfold heT; simp (disch := omega) only [u2_r]
  · rw [if_neg h4] at K
    simp (disch := omega) only [↓s_C_held_29, ↓s_C_held_30, ↓s_C_held_33, ↓s_C_held_36, ↓s_C_held_38, ↓s_C_held_41, ↓s_C_held_43, nI_leI, nI_ltI, nI_eq, N_z, nI_add, pk_sub, pk_mul, kL_i, kL_r, kL_d, kL_l, kL_k, kL_f, Option.toList_some, Option.toList_none, List.cons_append, List.nil_append, bI_z, N_and, N_or, N_shl, N_shr, Nat.one_mul, Nat.reduceAdd, lg_cmp_eq, L_and, L_or, bI_1, bI_0, if_true, if_false, reduceIte, N_m1x, ite_not, e0, h4]
    exact KC_0 c K
theorem p_M_holds (c : MR t n σ τ g hj) (K : KM g hj Q (heS t n σ τ a1 a2 a3 a4)) : cwp X (d + 3) m_M_holds [.ref 51, .int a1, .int a2, .int a3, .int a4] (HP g hj) Q := by
  have w := c.2.1.1
  have w2 := w.2.1.1
  have w3 := w.2.2.1.1
  have e0 := c.2.1.2.2.1.1
  unfold heS at K
  simp (disch := omega) only [e_M_holds, ↓s_M_holds_0, ↓s_M_holds_1, ↓s_M_holds_2, ↓s_M_holds_5, ↓s_M_holds_8, ↓s_M_holds_9, ↓s_M_holds_10, ↓s_M_holds_12, ↓s_M_holds_15, ↓s_M_holds_18, ↓s_M_holds_19, ↓s_M_holds_22, ↓s_M_holds_25, ↓s_M_holds_27, ↓s_M_holds_28, ↓s_M_holds_30, ↓s_M_holds_33, ↓s_M_holds_36, ↓s_M_holds_38, c_M_isRing c.2.1, c_M_isDay, c_M_in, in_c, nI_leI, nI_ltI, nI_eq, N_z, nI_add, pk_sub, pk_mul, kL_i, kL_r, kL_d, kL_l, kL_k, kL_f, Option.toList_some, Option.toList_none, List.cons_append, List.nil_append, bI_z, N_and, N_or, N_shl, N_shr, Nat.one_mul, Nat.reduceAdd, lg_cmp_eq, L_and, L_or, bI_1, bI_0, if_true, if_false, reduceIte, N_m1x, ite_not]
  by_cases h1 : inR a1 (σ 2 0)
  case neg =>
    rw [if_neg (fun z => h1 z.1)] at K
    rw [if_neg h1]
    exact KM_0 c K
  rw [if_pos h1]
  by_cases h2 : inR a2 8
  case neg =>
    rw [if_neg (fun z => h2 z.2.1)] at K
    rw [if_neg h2]
    exact KM_0 c K
  rw [if_pos h2]
  by_cases h3 : inR a3 60
  case neg =>
    rw [if_neg (fun z => h3 z.2.2.1)] at K
    rw [if_neg h3]
    exact KM_0 c K
  rw [if_pos h3]
  obtain ⟨f, hf, rfl⟩ := inR_n h3 (by omega)
  rw [nn_n (by omega)] at K
  simp only [in_day hf]
  by_cases h5 : inR a4 60 ∧ f ≤ nn a4
  case neg =>
    rw [if_neg (fun z => h5 z.2.2.2)] at K
    rw [if_neg h5]
    exact KM_0 c K
  rw [if_pos h5]
  rw [if_pos ⟨h1, h2, h3, h5⟩] at K
  obtain ⟨r, hr, rfl⟩ := inR_n h1 (by omega)
  obtain ⟨p, hp, rfl⟩ := inR_n h2 (by omega)
  obtain ⟨y, hy, rfl⟩ := inR_n h5.1 (by omega)
  simp (disch := omega) only [nn_n] at K h5
  by_cases h4 : σ 6 0 < 12
  · rw [if_pos h4] at K
    simp (disch := omega) only [↓s_M_holds_39, ↓s_M_holds_40, ↓s_M_holds_43, ↓s_M_holds_45, ↓s_M_holds_48, ↓s_M_holds_50, ↓s_M_holds_51, ↓s_M_holds_52, ↓s_M_holds_55, ↓s_M_holds_56, ↓s_M_holds_59, ↓s_M_holds_60, ↓s_M_holds_61, ↓s_M_holds_62, ↓s_M_holds_65, ↓s_M_holds_66, ↓s_M_holds_69, ↓s_M_holds_70, ↓s_M_holds_71, ↓s_M_holds_72, ↓s_M_holds_75, ↓s_M_holds_76, ↓s_M_holds_79, ↓s_M_holds_80, ↓s_M_holds_81, ↓s_M_holds_82, ↓s_M_holds_85, ↓s_M_holds_86, ↓s_M_holds_89, ↓s_M_holds_91, ↓s_M_holds_92, ↓s_M_holds_93, ↓s_M_holds_94, ↓s_M_holds_97, ↓s_M_holds_98, ↓s_M_holds_99, ↓s_M_holds_102, ↓s_M_holds_103, ↓s_M_holds_104_0, ↓s_M_holds_104_1, ↓s_M_holds_107, ↓s_M_holds_108, ↓s_M_holds_111, ↓s_M_holds_112, ↓s_M_holds_113, nI_leI, nI_ltI, nI_eq, N_z, nI_add, pk_sub, pk_mul, kL_i, kL_r, kL_d, kL_l, kL_k, kL_f, Option.toList_some, Option.toList_none, List.cons_append, List.nil_append, bI_z, N_and, N_or, N_shl, N_shr, Nat.one_mul, Nat.reduceAdd, lg_cmp_eq, L_and, L_or, bI_1, bI_0, if_true, if_false, reduceIte, N_m1x, ite_not, u2_s, u2_n, u2_m, e0, Nat.add_sub_cancel]
    rw [if_neg (by omega)]
    refine K _ _ (MR_new (σ2 := heT σ r p f y) (t2 := t) (n2 := n) c (rdL_cg c.1 ?_ ?_) ⟨WF_he w h4 hr hp h5.2 hy, ?_, ?_, ?_⟩ ?_ ?_ (fun k h1 h2 => by simp (disch := omega) only [u2_r])) (fun k h1 => by simp (disch := omega) only [u2_r]) (fun _ _ => rfl)
    · simp (disch := omega) only [u2_s, u2_n, u2_m]
    · simp (disch := omega) only [u2_r]
    · have := c.2.1.2.1
      unfold heT rdR at *
      simp (disch := omega) only [u2_s, u2_n, u2_m]
      exact this
    · unfold heT
      refine ⟨?_, fun x hx => ?_⟩
      · simp (disch := omega) only [u2_s, u2_n, u2_m]
      · simp (disch := omega) only [u2_s, u2_n, u2_m] at hx ⊢
        by_cases e : x = σ 6 0
        · subst e
          simp (disch := omega) only [u2_s, u2_n, u2_m]
          exact ⟨trivial, trivial, trivial, trivial⟩
        · simp (disch := omega) only [u2_s, u2_n, u2_m]
          exact c.2.1.2.2.1.2 x (by omega)
    · have := c.2.1.2.2.2
      unfold heT rdLm at *
      simp (disch := omega) only [u2_s, u2_n, u2_m]
      exact this
    · simp (disch := omega) only [u2_s, u2_n, u2_m]
    · simp (disch := omega) only [u2_s, u2_n, u2_m]
  · rw [if_neg h4] at K
    simp (disch := omega) only [↓s_M_holds_39, ↓s_M_holds_40, ↓s_M_holds_43, ↓s_M_holds_45, ↓s_M_holds_48, ↓s_M_holds_50, nI_leI, nI_ltI, nI_eq, N_z, nI_add, pk_sub, pk_mul, kL_i, kL_r, kL_d, kL_l, kL_k, kL_f, Option.toList_some, Option.toList_none, List.cons_append, List.nil_append, bI_z, N_and, N_or, N_shl, N_shr, Nat.one_mul, Nat.reduceAdd, lg_cmp_eq, L_and, L_or, bI_1, bI_0, if_true, if_false, reduceIte, N_m1x, ite_not, e0]
    rw [if_pos (by omega)]
    exact KM_0 c K
theorem p_M_held (c : MR t n σ τ g hj) (K : KM g hj Q (heS t n σ τ a1 a2 a3 a4)) : cwp X (d + 4) m_M_held [.ref 51, .int a1, .int a2, .int a3, .int a4] (HP g hj) Q := by
  simp only [e_M_held, ↓s_M_held_0, ↓s_M_held_1, ↓s_M_held_2, ↓s_M_held_3, ↓s_M_held_4, ↓s_M_held_6, ↓s_M_held_9]
  refine p_M_holds c (fun g' hj' c1 c2 c3 => ?_)
  simp only [↓s_M_held_0, ↓s_M_held_1, ↓s_M_held_2, ↓s_M_held_3, ↓s_M_held_4, ↓s_M_held_6, ↓s_M_held_9, nI_leI, nI_ltI, nI_eq, N_z, nI_add, pk_sub, pk_mul, kL_i, kL_r, kL_d, kL_l, kL_k, kL_f, Option.toList_some, Option.toList_none, List.cons_append, List.nil_append, bI_z, N_and, N_or, N_shl, N_shr, Nat.one_mul, Nat.reduceAdd, lg_cmp_eq, L_and, L_or, bI_1, bI_0, if_true, if_false, reduceIte, N_m1x, ite_not]
  exact K g' hj' c1 c2 c3
theorem WF_as {b : Nat} (w : WF σ) (h : b < 2 ^ σ 11 0) : WF (asT σ b) := by
  obtain ⟨w1, w2, w3, w6, w7, w8, w9⟩ := w
  unfold asT
  refine ⟨?_, ?_, ?_, ?_, ?_, ?_, ?_⟩
  · simp (disch := omega) only [u2_r]; exact w1
  · simp (disch := omega) only [u2_r]; exact w2
  · simp (disch := omega) only [u2_r]; exact w3
  · simp (disch := omega) only [u2_r]; exact w6
  · simp (disch := omega) only [u2_s, u2_n, u2_m]; exact h
  · simp (disch := omega) only [u2_r]; exact w8
  · simp (disch := omega) only [u2_r]; exact w9
theorem CR_lumps {σ2 : ST} {t2 : Nat → Nat} {n2 : Nat} (c : CR t n σ τ g hj) (h1 : rdL g2 1 1 2 t2 n2) (h2 : C0 σ2 g2 hj2) (h3 : g2 19 10 = nI 0) (h4 : g2 42 7 = nI 0) (e : ∀ k, 20 ≤ k → k ≤ 41 → g2 k = g k) (e2 : ∀ k, 47 ≤ k → k ≤ 50 → g2 k = g k) : CR t2 n2 σ2 τ g2 hj2 :=
  ⟨h1, h2, ⟨GE_cg c.2.2.1.1 (fun k _ _ => e k (by omega) (by omega)), Or.inl h3⟩, Or.inl h4, CS_cg c.2.2.2.2 (fun k _ _ => e2 k (by omega) (by omega))⟩
theorem p_C_aside (c : CR t n σ τ g hj) (K : KC g hj Q (asS t n σ τ a)) : cwp X (d + 3) m_C_aside [.ref 0, .int a] (HP g hj) Q := by
  have w := c.2.1.1
  have w2 := w.2.2.2.1.1
  have e0 := c.2.1.2.2.2.1
  have e1 := c.2.1.2.2.2.2.1
  have w4 : 2 ^ σ 11 0 ≤ 2 ^ 12 := pow_le w2
  unfold asS at K
  simp (disch := omega) only [e_C_aside, ↓s_C_aside_0, ↓s_C_aside_1, ↓s_C_aside_4, ↓s_C_aside_5, ↓s_C_aside_6, ↓s_C_aside_7, ↓s_C_aside_10, ↓s_C_aside_13, ↓s_C_aside_14, nI_leI, nI_ltI, nI_eq, N_z, nI_add, pk_sub, pk_mul, kL_i, kL_r, kL_d, kL_l, kL_k, kL_f, Option.toList_some, Option.toList_none, List.cons_append, List.nil_append, bI_z, N_and, N_or, N_shl, N_shr, Nat.one_mul, Nat.reduceAdd, lg_cmp_eq, L_and, L_or, bI_1, bI_0, if_true, if_false, reduceIte, N_m1x, ite_not, e0]
  by_cases h1 : inR a (2 ^ σ 11 0)
  · obtain ⟨h2, h3⟩ := inr_eq.mpr h1
    rw [if_neg (Int32.not_lt.mpr h2), if_pos h3]
    rw [if_pos h1] at K
    obtain ⟨b, hb, rfl⟩ := inR_n h1 (by omega)
    rw [nn_n (by omega)] at K
    simp (disch := omega) only [↓s_C_aside_17, ↓s_C_aside_19, ↓s_C_aside_20, ↓s_C_aside_21, ↓s_C_aside_24, ↓s_C_aside_27, ↓s_C_aside_28, ↓s_C_aside_29, ↓s_C_aside_32, ↓s_C_aside_33, ↓s_C_aside_36, ↓s_C_aside_37, ↓s_C_aside_40, ↓s_C_aside_41, nI_leI, nI_ltI, nI_eq, N_z, nI_add, pk_sub, pk_mul, kL_i, kL_r, kL_d, kL_l, kL_k, kL_f, Option.toList_some, Option.toList_none, List.cons_append, List.nil_append, bI_z, N_and, N_or, N_shl, N_shr, Nat.one_mul, Nat.reduceAdd, lg_cmp_eq, L_and, L_or, bI_1, bI_0, if_true, if_false, reduceIte, N_m1x, ite_not, c_forgetLumps, e1]
    refine K _ _ (CR_lumps (σ2 := asT σ b) (t2 := t) (n2 := n) c (rdL_cg c.1 ?_ ?_) ⟨WF_as w hb, ?_, ?_, ?_⟩ ?_ ?_ (fun k h1 h2 => by simp (disch := omega) only [u2_r]) (fun k h1 h2 => by simp (disch := omega) only [u2_r])) (fun k h1 => by simp (disch := omega) only [u2_r]) (fun _ _ => rfl)
    · simp (disch := omega) only [u2_s, u2_n, u2_m]
    · simp (disch := omega) only [u2_r]
    · have := c.2.1.2.1
      unfold asT rdR at *
      simp (disch := omega) only [u2_s, u2_n, u2_m]
      exact this
    · have := c.2.1.2.2.1
      unfold asT rdHc at *
      simp (disch := omega) only [u2_s, u2_n, u2_m]
      exact this
    · have := c.2.1.2.2.2
      unfold asT rdLu wh bl nob at *
      simp (disch := omega) only [u2_r, u2_s, u2_n, u2_m]
      exact ⟨this.1, trivial, this.2.2⟩
    · simp (disch := omega) only [u2_s, u2_n, u2_m]
    · simp (disch := omega) only [u2_s, u2_n, u2_m]
  · rw [if_neg h1] at K
    simp only [↓s_C_aside_17, ↓s_C_aside_19]
    by_cases h2 : a < 0
    · rw [if_pos h2]; exact KC_0 c K
    · rw [if_neg h2, if_neg (fun z => h1 (inr_eq.mp ⟨Int32.not_lt.mp h2, z⟩))]
      exact KC_0 c K
theorem c_M_allLumps (c : M0 σ g hj) : cwp X d m_M_allLumps [.ref 51] (HP g hj) Q = Q (some (.int (nI (2 ^ σ 11 0 - 1)))) (HP g hj) := by
  have w2 := c.1.2.2.2.1.1
  have e0 := c.2.2.2.1
  have w4 : 2 ^ σ 11 0 ≤ 2 ^ 12 := pow_le w2
  have w5 : 1 ≤ 2 ^ σ 11 0 := Nat.one_le_two_pow
  simp (disch := omega) only [e_M_allLumps, ↓s_M_allLumps_0, ↓s_M_allLumps_1, ↓s_M_allLumps_2, ↓s_M_allLumps_5, ↓s_M_allLumps_6, ↓s_M_allLumps_7, ↓s_M_allLumps_8, nI_leI, nI_ltI, nI_eq, N_z, nI_add, pk_sub, pk_mul, kL_i, kL_r, kL_d, kL_l, kL_k, kL_f, Option.toList_some, Option.toList_none, List.cons_append, List.nil_append, bI_z, N_and, N_or, N_shl, N_shr, Nat.one_mul, Nat.reduceAdd, lg_cmp_eq, L_and, L_or, bI_1, bI_0, if_true, if_false, reduceIte, N_m1x, ite_not, e0]
theorem p_M_aside (c : MR t n σ τ g hj) (K : KM g hj Q (asS t n σ τ a)) : cwp X (d + 3) m_M_aside [.ref 51, .int a] (HP g hj) Q := by
  have w := c.2.1.1
  have w2 := w.2.2.2.1.1
  have e1 := c.2.1.2.2.2.2.1
  have w4 : 2 ^ σ 11 0 ≤ 2 ^ 12 := pow_le w2
  have w5 : 1 ≤ 2 ^ σ 11 0 := Nat.one_le_two_pow
  unfold asS at K
  simp (disch := omega) only [e_M_aside, ↓s_M_aside_0, ↓s_M_aside_1, ↓s_M_aside_2, ↓s_M_aside_3, ↓s_M_aside_6, ↓s_M_aside_9, ↓s_M_aside_12, ↓s_M_aside_14, c_M_allLumps c.2.1, c_M_in, in_c, nI_leI, nI_ltI, nI_eq, N_z, nI_add, pk_sub, pk_mul, kL_i, kL_r, kL_d, kL_l, kL_k, kL_f, Option.toList_some, Option.toList_none, List.cons_append, List.nil_append, bI_z, N_and, N_or, N_shl, N_shr, Nat.one_mul, Nat.reduceAdd, lg_cmp_eq, L_and, L_or, bI_1, bI_0, if_true, if_false, reduceIte, N_m1x, ite_not, Nat.sub_add_cancel]
  by_cases h1 : inR a (2 ^ σ 11 0)
  · rw [if_pos h1] at K ⊢
    obtain ⟨b, hb, rfl⟩ := inR_n h1 (by omega)
    rw [nn_n (by omega)] at K
    simp (disch := omega) only [↓s_M_aside_15, ↓s_M_aside_16, ↓s_M_aside_19, ↓s_M_aside_20, ↓s_M_aside_21, ↓s_M_aside_22, ↓s_M_aside_25, ↓s_M_aside_26, ↓s_M_aside_27_0, ↓s_M_aside_27_1, ↓s_M_aside_30, ↓s_M_aside_31, nI_leI, nI_ltI, nI_eq, N_z, nI_add, pk_sub, pk_mul, kL_i, kL_r, kL_d, kL_l, kL_k, kL_f, Option.toList_some, Option.toList_none, List.cons_append, List.nil_append, bI_z, N_and, N_or, N_shl, N_shr, Nat.one_mul, Nat.reduceAdd, lg_cmp_eq, L_and, L_or, bI_1, bI_0, if_true, if_false, reduceIte, N_m1x, ite_not, e1]
    refine K _ _ (MR_new (σ2 := asT σ b) (t2 := t) (n2 := n) c (rdL_cg c.1 ?_ ?_) ⟨WF_as w hb, ?_, ?_, ?_⟩ ?_ ?_ (fun k h1 h2 => by simp (disch := omega) only [u2_r])) (fun k h1 => by simp (disch := omega) only [u2_r]) (fun _ _ => rfl)
    · simp (disch := omega) only [u2_s, u2_n, u2_m]
    · simp (disch := omega) only [u2_r]
    · have := c.2.1.2.1
      unfold asT rdR at *
      simp (disch := omega) only [u2_s, u2_n, u2_m]
      exact this
    · have := c.2.1.2.2.1
      unfold asT rdHm at *
      simp (disch := omega) only [u2_s, u2_n, u2_m]
      exact this
    · have := c.2.1.2.2.2
      unfold asT rdLm at *
      simp (disch := omega) only [u2_s, u2_n, u2_m]
      exact ⟨this.1, trivial, this.2.2⟩
    · simp (disch := omega) only [u2_s, u2_n, u2_m]
    · simp (disch := omega) only [u2_s, u2_n, u2_m]
  · rw [if_neg h1] at K ⊢
    exact KM_0 c K
end ACTS3
