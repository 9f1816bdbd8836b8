/-! lump -/
def luT (σ : ST) (mk un f y b o : Nat) : ST := up2 (up2 (up2 (up2 (up2 (up2 (up2 σ 12 (σ 11 0) mk) 13 (σ 11 0) un) 14 (σ 11 0) f) 15 (σ 11 0) y) 16 (σ 11 0) b) 17 (σ 11 0) o) 11 0 (σ 11 0 + 1)
def luS (t : Nat → Nat) (n : Nat) (σ τ : ST) (a1 a2 a3 a4 : Int32) : SS := if (inR a1 60 ∧ inR a2 60 ∧ nn a1 ≤ nn a2) ∧ inR a3 4 ∧ inR a4 4 then (if (sc t n).1 = -1 then (if σ 11 0 < 12 then (t, 0, luT σ (sc t n).2.1 (sc t n).2.2 (nn a1) (nn a2) (nn a3) (nn a4), τ, nI (σ 11 0)) else (t, n, σ, τ, -4)) else (t, n, σ, τ, -3)) else (t, n, σ, τ, -2)
section LUMP
variable {X : AX} {d : Nat} {Q : Option Value → AH → Prop} {g g2 : Nat → Nat → Int32} {hj hj2 : Nat → Nat → Int64} {σ τ : ST} {a b a1 a2 a3 a4 : Int32} {t : Nat → Nat} {n : Nat} {h : AH}
theorem WF_lu {mk un f y b o : Nat} (w : WF σ) (h12 : σ 11 0 < 12) (h1 : mk < 65536) (h2 : un < 65536) (h3 : mk &&& un = 0) (h4 : f ≤ y) (h5 : y < 60) (h6 : b < 4) (h7 : o < 4) : WF (luT σ mk un f y b o) := by
  obtain ⟨w1, w2, w3, ⟨w4, w5⟩, w7, w8, w9⟩ := w
  unfold luT
  refine ⟨?_, ?_, ?_, ⟨?_, fun l hl => ?_⟩, ?_, ?_, ?_⟩
  · simp (disch := omega) only [u2_r]; exact w1
  · simp (disch := omega) only [u2_r]; exact w2
  · simp (disch := omega) only [u2_r]; exact w3
  · simp (disch := omega) only [u2_s, u2_n, u2_m]; omega
  · simp (disch := omega) only [u2_s, u2_n, u2_m] at hl ⊢
    by_cases e : l = σ 11 0
    · subst e
      simp (disch := omega) only [u2_s, u2_n, u2_m]
      exact ⟨h1, h2, h3, h4, h5, h6, h7⟩
    · simp (disch := omega) only [u2_s, u2_n, u2_m]
      exact w5 l (by omega)
  · simp (disch := omega) only [u2_s, u2_n, u2_m]
    exact Nat.lt_of_lt_of_le w7 (pow_le (by omega))
  · simp (disch := omega) only [u2_r]; exact w8
  · simp (disch := omega) only [u2_r]; exact w9
theorem N_r4c {i : Nat} (hi : i < 4) : nI (4 - i) - nI (4 - i) / 4 * 4 = nI ((4 - i) % 4) := N_r4 (by omega)
theorem l_Lumps_add {L mk no un : Nat} {v6 : Value} (hL : L < 12) (h1 : mk < 65536) (h2 : no < 65536) : ∀ (m i : Nat) (g2 : Nat → Nat → Int32) (v6 : Value), i + m = 4 → (∀ k, k ≠ 11 → k ≠ 12 → g2 k = g k) → (∀ x, x < L * 4 → g2 11 x = g 11 x ∧ g2 12 x = g 12 x) → (∀ u, u < i → g2 11 (L * 4 + u) = nI (turnR mk ((4 - u) % 4)) ∧ g2 12 (L * 4 + u) = nI (turnR no ((4 - u) % 4))) →
    (∀ g3 v6, (∀ k, k ≠ 11 → k ≠ 12 → g3 k = g k) → (∀ x, x < L * 4 → g3 11 x = g 11 x ∧ g3 12 x = g 12 x) → (∀ u, u < 4 → g3 11 (L * 4 + u) = nI (turnR mk ((4 - u) % 4)) ∧ g3 12 (L * 4 + u) = nI (turnR no ((4 - u) % 4))) → wp X (d + 2) m_Lumps_add 75 [.ref 10, .int (nI mk), .int (nI un), .int (nI L), .int (nI no), .int (nI 4), v6] [] (HP g3 hj) Q) →
    wp X (d + 2) m_Lumps_add 20 [.ref 10, .int (nI mk), .int (nI un), .int (nI L), .int (nI no), .int (nI i), v6] [] (HP g2 hj) Q
  | 0, i, g2, v6, hi, e1, e2, e3, K => by
    have : i = 4 := by omega
    subst this
    rw [s_Lumps_add_20]
    simp (disch := omega) only [↓s_Lumps_add_22, ↓s_Lumps_add_23, nI_leI, nI_ltI, nI_eq, N_z, nI_add, pk_sub, pk_mul, kL_i, kL_r, kL_d, kL_l, kL_k, kL_f, Option.toList_some, Option.toList_none, List.cons_append, List.nil_append, bI_z, N_and, N_or, N_shl, N_shr, Nat.one_mul, Nat.reduceAdd, lg_cmp_eq, L_and, L_or, bI_1, bI_0, if_true, if_false, reduceIte, N_m1x, ite_not, Nat.le_refl]
    exact K g2 v6 e1 e2 e3
  | m + 1, i, g2, v6, hi, e1, e2, e3, K => by
    rw [s_Lumps_add_20]
    simp (disch := omega) only [↓s_Lumps_add_22, ↓s_Lumps_add_23, ↓s_Lumps_add_26, ↓s_Lumps_add_27, ↓s_Lumps_add_29, ↓s_Lumps_add_30, ↓s_Lumps_add_31, ↓s_Lumps_add_32, nI_leI, pk_sub, N_r4, kL_i]
    rw [if_neg (by omega)]
    simp (disch := omega) only [↓s_Lumps_add_34, ↓s_Lumps_add_35, ↓s_Lumps_add_38, ↓s_Lumps_add_39, ↓s_Lumps_add_40, ↓s_Lumps_add_41, ↓s_Lumps_add_43, ↓s_Lumps_add_44, ↓s_Lumps_add_45, ↓s_Lumps_add_47, ↓s_Lumps_add_50, ↓s_Lumps_add_51, ↓s_Lumps_add_52, ↓s_Lumps_add_55, ↓s_Lumps_add_56, ↓s_Lumps_add_57, ↓s_Lumps_add_58, ↓s_Lumps_add_60, ↓s_Lumps_add_61, ↓s_Lumps_add_63, ↓s_Lumps_add_65, ↓s_Lumps_add_68, ↓s_Lumps_add_69, ↓s_Lumps_add_72, nI_leI, nI_ltI, nI_eq, N_z, nI_add, pk_sub, pk_mul, kL_i, kL_r, kL_d, kL_l, kL_k, kL_f, Option.toList_some, Option.toList_none, List.cons_append, List.nil_append, bI_z, N_and, N_or, N_shl, N_shr, Nat.one_mul, Nat.reduceAdd, lg_cmp_eq, L_and, L_or, bI_1, bI_0, if_true, if_false, reduceIte, N_m1x, ite_not, c_C_turnedRight]
    refine l_Lumps_add (v6 := v6) hL h1 h2 m (i + 1) _ _ (by omega) (fun k k1 k2 => ?_) (fun x hx => ?_) (fun u hu => ?_) K
    · simp (disch := omega) only [u2_r]; exact e1 k k1 k2
    · simp (disch := omega) only [u2_s, u2_n, u2_m]; exact e2 x hx
    · by_cases e : u = i
      · subst e
        simp (disch := omega) only [u2_s, u2_n, u2_m]
        exact ⟨trivial, trivial⟩
      · simp (disch := omega) only [u2_s, u2_n, u2_m]
        exact e3 u (by omega)
theorem p_C_lump (c : CR t n σ τ g hj) (K : KC g hj Q (luS t n σ τ a1 a2 a3 a4)) : cwp X (d + 3) m_C_lump [.ref 0, .int a1, .int a2, .int a3, .int a4] (HP g hj) Q := by
  obtain ⟨q1, q2, q3, q4⟩ := id c.1
  have w := c.2.1.1
  have w2 := w.2.2.2.1.1
  obtain ⟨s1, s2, s3⟩ := sc_ok (t := t) (n := n)
  have e0 := c.2.1.2.2.2.1
  unfold luS at K
  simp only [e_C_lump, ↓s_C_lump_0, ↓s_C_lump_1, ↓s_C_lump_2, ↓s_C_lump_5, ↓s_C_lump_8, ↓s_C_lump_9, ↓s_C_lump_10, ↓s_C_lump_13, ↓s_C_lump_16, ↓s_C_lump_18, ↓s_C_lump_19, ↓s_C_lump_22, ↓s_C_lump_25, ↓s_C_lump_27, c_C_areDays, c_C_isBelowN, nI_leI, nI_ltI, nI_eq, N_z, nI_add, pk_sub, pk_mul, kL_i, kL_r, kL_d, kL_l, kL_k, kL_f, Option.toList_some, Option.toList_none, List.cons_append, List.nil_append, bI_z, N_and, N_or, N_shl, N_shr, Nat.one_mul, Nat.reduceAdd, lg_cmp_eq, L_and, L_or, bI_1, bI_0, if_true, if_false, reduceIte, N_m1x, ite_not]
  by_cases h1 : inR a1 60 ∧ inR a2 60 ∧ nn a1 ≤ nn a2
  case neg =>
    rw [if_neg (fun z => h1 z.1)] at K
    rw [if_neg h1]
    exact KC_0 c K
  rw [if_pos h1]
  by_cases h2 : inR a3 4
  case neg =>
    rw [if_neg (fun z => h2 z.2.1)] at K
    rw [if_neg h2]
    exact KC_0 c K
  rw [if_pos h2]
  by_cases h3 : inR a4 4
  case neg =>
    rw [if_neg (fun z => h3 z.2.2)] at K
    rw [if_neg h3]
    exact KC_0 c K
  rw [if_pos h3]
  rw [if_pos ⟨h1, h2, h3⟩] at K
  obtain ⟨f, hf, rfl⟩ := inR_n h1.1 (by omega)
  obtain ⟨y, hy, rfl⟩ := inR_n h1.2.1 (by omega)
  obtain ⟨b, hb, rfl⟩ := inR_n h2 (by omega)
  obtain ⟨o, ho, rfl⟩ := inR_n h3 (by omega)
  simp (disch := omega) only [nn_n] at K h1
  simp (disch := omega) only [↓s_C_lump_28, ↓s_C_lump_29, ↓s_C_lump_32, ↓s_C_lump_35, ↓s_C_lump_36, ↓s_C_lump_39, ↓s_C_lump_41, c_Line_fault c.1, nI_leI, nI_ltI, nI_eq, N_z, nI_add, pk_sub, pk_mul, kL_i, kL_r, kL_d, kL_l, kL_k, kL_f, Option.toList_some, Option.toList_none, List.cons_append, List.nil_append, bI_z, N_and, N_or, N_shl, N_shr, Nat.one_mul, Nat.reduceAdd, lg_cmp_eq, L_and, L_or, bI_1, bI_0, if_true, if_false, reduceIte, N_m1x, ite_not]
  by_cases h4 : (sc t n).1 = -1
  case neg =>
    rw [if_neg h4] at K
    rw [if_neg h4]
    exact K _ _ (CR_G2 c) (fun k hk => G2_c hk) (fun _ _ => rfl)
  rw [if_pos h4] at K
  rw [if_pos h4]
  have e1 : G2 g 1 2 3 (nI (sc t n).2.1) (nI (sc t n).2.2) 10 7 = nI (σ 11 0) := by rw [G2_n (by omega)]; exact e0
  by_cases h5 : σ 11 0 < 12
  case neg =>
    rw [if_neg h5] at K
    simp (disch := omega) only [↓s_C_lump_42, ↓s_C_lump_43, ↓s_C_lump_46, ↓s_C_lump_49, ↓s_C_lump_51, ↓s_C_lump_54, ↓s_C_lump_56, e1, nI_leI, nI_ltI, nI_eq, N_z, nI_add, pk_sub, pk_mul, kL_i, kL_r, kL_d, kL_l, kL_k, kL_f, Option.toList_some, Option.toList_none, List.cons_append, List.nil_append, bI_z, N_and, N_or, N_shl, N_shr, Nat.one_mul, Nat.reduceAdd, lg_cmp_eq, L_and, L_or, bI_1, bI_0, if_true, if_false, reduceIte, N_m1x, ite_not, h5]
    exact K _ _ (CR_G2 c) (fun k hk => G2_c hk) (fun _ _ => rfl)
  rw [if_pos h5] at K
  have hno : (65535 &&& ((sc t n).2.1 ^^^ 4294967295) &&& ((sc t n).2.2 ^^^ 4294967295)) < 65536 := by
    have z1 : 65535 &&& ((sc t n).2.1 ^^^ 4294967295) &&& ((sc t n).2.2 ^^^ 4294967295) ≤ 65535 &&& ((sc t n).2.1 ^^^ 4294967295) := Nat.and_le_left
    have z2 : 65535 &&& ((sc t n).2.1 ^^^ 4294967295) ≤ 65535 := Nat.and_le_left
    omega
  simp (disch := omega) only [↓s_C_lump_42, ↓s_C_lump_43, ↓s_C_lump_46, ↓s_C_lump_49, ↓s_C_lump_51, ↓s_C_lump_54, ↓s_C_lump_56, ↓s_C_lump_57, ↓s_C_lump_58, ↓s_C_lump_61, ↓s_C_lump_62, ↓s_C_lump_65, ↓s_C_lump_68, ↓s_C_lump_69, ↓s_C_lump_72, ↓s_C_lump_75, e1, nI_leI, nI_ltI, nI_eq, N_z, nI_add, pk_sub, pk_mul, kL_i, kL_r, kL_d, kL_l, kL_k, kL_f, Option.toList_some, Option.toList_none, List.cons_append, List.nil_append, bI_z, N_and, N_or, N_shl, N_shr, Nat.one_mul, Nat.reduceAdd, lg_cmp_eq, L_and, L_or, bI_1, bI_0, if_true, if_false, reduceIte, N_m1x, ite_not, h5, G2_i, G2_j, e_Lumps_add, ↓s_Lumps_add_0, ↓s_Lumps_add_1, ↓s_Lumps_add_4, ↓s_Lumps_add_5, ↓s_Lumps_add_7, ↓s_Lumps_add_8, ↓s_Lumps_add_9, ↓s_Lumps_add_10, ↓s_Lumps_add_11, ↓s_Lumps_add_12, ↓s_Lumps_add_13, ↓s_Lumps_add_14, ↓s_Lumps_add_15, ↓s_Lumps_add_17, ↓s_Lumps_add_18]
  refine l_Lumps_add (v6 := DUM) h5 s1 hno 4 0 _ _ rfl (fun _ _ _ => rfl) (fun _ _ => ⟨rfl, rfl⟩) (fun u hu => by omega) (fun g3 v6 x1 x2 x3 => ?_)
  have e2 : g3 10 7 = nI (σ 11 0) := by rw [x1 10 (by omega) (by omega)]; exact e1
  simp (disch := omega) only [↓s_Lumps_add_75, ↓s_Lumps_add_76, ↓s_Lumps_add_79, ↓s_Lumps_add_80, ↓s_Lumps_add_81, ↓s_Lumps_add_82, ↓s_Lumps_add_83, ↓s_Lumps_add_84, ↓s_Lumps_add_87, ↓s_Lumps_add_88, ↓s_Lumps_add_89, ↓s_Lumps_add_92, ↓s_Lumps_add_93, ↓s_C_lump_78, ↓s_C_lump_80, ↓s_C_lump_81, ↓s_C_lump_84, ↓s_C_lump_86, ↓s_C_lump_87, ↓s_C_lump_88, ↓s_C_lump_89, ↓s_C_lump_91, ↓s_C_lump_94, ↓s_C_lump_95, ↓s_C_lump_98, ↓s_C_lump_101, ↓s_C_lump_102, ↓s_C_lump_103, ↓s_C_lump_106, ↓s_C_lump_108, e2, nI_leI, nI_ltI, nI_eq, N_z, nI_add, pk_sub, pk_mul, kL_i, kL_r, kL_d, kL_l, kL_k, kL_f, Option.toList_some, Option.toList_none, List.cons_append, List.nil_append, bI_z, N_and, N_or, N_shl, N_shr, Nat.one_mul, Nat.reduceAdd, lg_cmp_eq, L_and, L_or, bI_1, bI_0, if_true, if_false, reduceIte, N_m1x, ite_not, e_Lumps_place, ↓s_Lumps_place_0, ↓s_Lumps_place_1, ↓s_Lumps_place_4, ↓s_Lumps_place_5, ↓s_Lumps_place_6, ↓s_Lumps_place_7, ↓s_Lumps_place_8, ↓s_Lumps_place_11, ↓s_Lumps_place_12, ↓s_Lumps_place_13, ↓s_Lumps_place_14, ↓s_Lumps_place_15, ↓s_Lumps_place_18, ↓s_Lumps_place_19, ↓s_Lumps_place_21, ↓s_Lumps_place_22, ↓s_Lumps_place_23, ↓s_Lumps_place_26, ↓s_Lumps_place_27, ↓s_Lumps_place_29, ↓s_Lumps_place_30, e_Line_clear, ↓s_Line_clear_0, ↓s_Line_clear_1, ↓s_Line_clear_4, ↓s_Line_clear_5, ↓s_Line_clear_6, ↓s_Line_clear_7, ↓s_Line_clear_10, ↓s_Line_clear_11, c_forgetLumps, u2_s, u2_n, u2_m]
  have x4 : ∀ k, k ≠ 1 → k ≠ 11 → k ≠ 12 → g3 k = g k := fun k k0 k1 k2 => by rw [x1 k k1 k2]; unfold G2; simp (disch := omega) only [u2_r]
  have x5 : G2 g 1 2 3 (nI (sc t n).2.1) (nI (sc t n).2.2) 11 = g 11 := by unfold G2; simp (disch := omega) only [u2_r]
  have x6 : G2 g 1 2 3 (nI (sc t n).2.1) (nI (sc t n).2.2) 12 = g 12 := by unfold G2; simp (disch := omega) only [u2_r]
  rw [x5, x6] at x2
  refine K _ _ (CR_lumps (σ2 := luT σ (sc t n).2.1 (sc t n).2.2 f y b o) (t2 := t) (n2 := 0) c ⟨?_, by omega, fun i hi => absurd hi (Nat.not_lt_zero i), q4⟩ ⟨WF_lu w h5 s1 s2 s3 h1.2.2 hy hb ho, ?_, ?_, ?_⟩ ?_ ?_ ?_ ?_) ?_ (fun _ _ => rfl)
  · simp (disch := omega) only [u2_s, u2_n, u2_m]
  · have := c.2.1.2.1
    unfold luT rdR at *
    simp (disch := omega) only [u2_s, u2_n, u2_m, x4]
    exact this
  · have := c.2.1.2.2.1
    unfold luT rdHc at *
    simp (disch := omega) only [u2_s, u2_n, u2_m, x4]
    exact this
  · obtain ⟨z1, z2, z3⟩ := c.2.1.2.2.2
    unfold luT
    refine ⟨?_, ?_, fun l hl => ?_⟩
    · simp (disch := omega) only [u2_s, u2_n, u2_m]
    · simp (disch := omega) only [u2_s, u2_n, u2_m, x4]; exact z2
    · unfold wh bl nob
      simp (disch := omega) only [u2_s, u2_n, u2_m] at hl ⊢
      by_cases e : l = σ 11 0
      · subst e
        simp (disch := omega) only [u2_s, u2_n, u2_m]
        exact ⟨x3, trivial, trivial, trivial, trivial, trivial⟩
      · obtain ⟨y1, y2⟩ := z3 l (by omega)
        refine ⟨fun u hu => ?_, ?_⟩
        · obtain ⟨m1, m2⟩ := x2 (l * 4 + u) (by omega)
          simp (disch := omega) only [u2_s, u2_n, u2_m]
          rw [m1, m2]
          exact y1 u hu
        · simp (disch := omega) only [u2_s, u2_n, u2_m, x4]
          exact y2
  · simp (disch := omega) only [u2_s, u2_n, u2_m]
  · simp (disch := omega) only [u2_s, u2_n, u2_m]
  · intro k k1 k2; simp (disch := omega) only [u2_r]; exact x4 k (by omega) (by omega) (by omega)
  · intro k k1 k2; simp (disch := omega) only [u2_r]; exact x4 k (by omega) (by omega) (by omega)
  · intro k k1; simp (disch := omega) only [u2_r]; exact x4 k (by omega) (by omega) (by omega)
theorem p_M_lump (c : MR t n σ τ g hj) (K : KM g hj Q (luS t n σ τ a1 a2 a3 a4)) : cwp X (d + 3) m_M_lump [.ref 51, .int a1, .int a2, .int a3, .int a4] (HP g hj) Q := by
  have w0 := c.2.1.1.2.2.2.1.1
  unfold luS at K
  simp (disch := omega) only [e_M_lump, ↓s_M_lump_0, ↓s_M_lump_1, ↓s_M_lump_4, ↓s_M_lump_7, ↓s_M_lump_8, ↓s_M_lump_9, ↓s_M_lump_11, ↓s_M_lump_14, ↓s_M_lump_17, ↓s_M_lump_18, ↓s_M_lump_19, ↓s_M_lump_20, ↓s_M_lump_23, ↓s_M_lump_26, ↓s_M_lump_28, ↓s_M_lump_29, ↓s_M_lump_30, ↓s_M_lump_33, ↓s_M_lump_36, ↓s_M_lump_38, c_M_isDay, c_M_in, in_c, nI_leI, nI_ltI, nI_eq, N_z, nI_add, pk_sub, pk_mul, kL_i, kL_r, kL_d, kL_l, kL_k, kL_f, Option.toList_some, Option.toList_none, List.cons_append, List.nil_append, bI_z, N_and, N_or, N_shl, N_shr, Nat.one_mul, Nat.reduceAdd, lg_cmp_eq, L_and, L_or, bI_1, bI_0, if_true, if_false, reduceIte, N_m1x, ite_not]
  by_cases h3 : inR a1 60
  case neg =>
    rw [if_neg (fun z => h3 z.1.1)] at K
    rw [if_neg h3]
    exact KM_0 c K
  rw [if_pos h3]
  obtain ⟨f, hf, rfl⟩ := inR_n h3 (by omega)
  rw [nn_n (by omega)] at K
  simp only [in_day hf]
  by_cases h5 : inR a2 60 ∧ f ≤ nn a2
  case neg =>
    rw [if_neg (fun z => h5 z.1.2)] at K
    rw [if_neg h5]
    exact KM_0 c K
  rw [if_pos h5]
  by_cases h6 : inR a3 4
  case neg =>
    rw [if_neg (fun z => h6 z.2.1)] at K
    rw [if_neg h6]
    exact KM_0 c K
  rw [if_pos h6]
  by_cases h7 : inR a4 4
  case neg =>
    rw [if_neg (fun z => h7 z.2.2)] at K
    rw [if_neg h7]
    exact KM_0 c K
  rw [if_pos h7]
  rw [if_pos ⟨⟨h3, h5⟩, h6, h7⟩] at K
  obtain ⟨y, hy, rfl⟩ := inR_n h5.1 (by omega)
  obtain ⟨b, hb, rfl⟩ := inR_n h6 (by omega)
  obtain ⟨o, ho, rfl⟩ := inR_n h7 (by omega)
  simp (disch := omega) only [nn_n] at K h5
  simp only [↓s_M_lump_39, ↓s_M_lump_40]
  refine c_M_faultR c (fun g' c' e1 e2 e3 => ?_)
  obtain ⟨q1, q2, q3, q4⟩ := id c'.1
  have w := c'.2.1.1
  have w2 := w.2.2.2.1.1
  obtain ⟨s1, s2, s3⟩ := sc_ok (t := t) (n := n)
  have e0 := c'.2.1.2.2.2.1
  simp (disch := omega) only [↓s_M_lump_43, ↓s_M_lump_44, ↓s_M_lump_47, ↓s_M_lump_49, nI_leI, nI_ltI, nI_eq, N_z, nI_add, pk_sub, pk_mul, kL_i, kL_r, kL_d, kL_l, kL_k, kL_f, Option.toList_some, Option.toList_none, List.cons_append, List.nil_append, bI_z, N_and, N_or, N_shl, N_shr, Nat.one_mul, Nat.reduceAdd, lg_cmp_eq, L_and, L_or, bI_1, bI_0, if_true, if_false, reduceIte, N_m1x, ite_not]
  by_cases h4 : (sc t n).1 = -1
  case neg =>
    rw [if_neg h4] at K
    rw [if_neg h4]
    exact K _ _ c' e1 (fun _ _ => rfl)
  rw [if_pos h4] at K
  rw [if_pos h4]
  by_cases h5 : σ 11 0 < 12
  case neg =>
    rw [if_neg h5] at K
    simp (disch := omega) only [↓s_M_lump_50, ↓s_M_lump_51, ↓s_M_lump_54, ↓s_M_lump_56, ↓s_M_lump_59, ↓s_M_lump_61, e0, nI_leI, nI_ltI, nI_eq, N_z, nI_add, pk_sub, pk_mul, kL_i, kL_r, kL_d, kL_l, kL_k, kL_f, Option.toList_some, Option.toList_none, List.cons_append, List.nil_append, bI_z, N_and, N_or, N_shl, N_shr, Nat.one_mul, Nat.reduceAdd, lg_cmp_eq, L_and, L_or, bI_1, bI_0, if_true, if_false, reduceIte, N_m1x, ite_not]
    rw [if_pos (by omega)]
    exact K _ _ c' e1 (fun _ _ => rfl)
  rw [if_pos h5] at K
  simp (disch := omega) only [↓s_M_lump_50, ↓s_M_lump_51, ↓s_M_lump_54, ↓s_M_lump_56, ↓s_M_lump_59, ↓s_M_lump_61, ↓s_M_lump_62, ↓s_M_lump_63, ↓s_M_lump_66, ↓s_M_lump_67, ↓s_M_lump_70, ↓s_M_lump_71, ↓s_M_lump_74, ↓s_M_lump_75, ↓s_M_lump_76, ↓s_M_lump_79, ↓s_M_lump_80, ↓s_M_lump_83, ↓s_M_lump_84, ↓s_M_lump_87, ↓s_M_lump_88, ↓s_M_lump_89, ↓s_M_lump_92, ↓s_M_lump_93, ↓s_M_lump_96, ↓s_M_lump_97, ↓s_M_lump_98, ↓s_M_lump_99, ↓s_M_lump_102, ↓s_M_lump_103, ↓s_M_lump_106, ↓s_M_lump_107, ↓s_M_lump_108, ↓s_M_lump_109, ↓s_M_lump_112, ↓s_M_lump_113, ↓s_M_lump_116, ↓s_M_lump_117, ↓s_M_lump_118, ↓s_M_lump_119, ↓s_M_lump_122, ↓s_M_lump_123, ↓s_M_lump_126, ↓s_M_lump_128, ↓s_M_lump_129, ↓s_M_lump_130, ↓s_M_lump_131, ↓s_M_lump_134, ↓s_M_lump_135, ↓s_M_lump_136, ↓s_M_lump_139, ↓s_M_lump_140, ↓s_M_lump_141, ↓s_M_lump_144, ↓s_M_lump_145, ↓s_M_lump_146_0, ↓s_M_lump_146_1, ↓s_M_lump_149, ↓s_M_lump_150, ↓s_M_lump_153, ↓s_M_lump_154, ↓s_M_lump_155, e0, e2, e3, nI_leI, nI_ltI, nI_eq, N_z, nI_add, pk_sub, pk_mul, kL_i, kL_r, kL_d, kL_l, kL_k, kL_f, Option.toList_some, Option.toList_none, List.cons_append, List.nil_append, bI_z, N_and, N_or, N_shl, N_shr, Nat.one_mul, Nat.reduceAdd, lg_cmp_eq, L_and, L_or, bI_1, bI_0, if_true, if_false, reduceIte, N_m1x, ite_not, u2_s, u2_n, u2_m, Nat.add_sub_cancel]
  rw [if_neg (by omega)]
  refine K _ _ (MR_new (σ2 := luT σ (sc t n).2.1 (sc t n).2.2 f y b o) (t2 := t) (n2 := 0) c' ⟨?_, by omega, fun i hi => absurd hi (Nat.not_lt_zero i), q4⟩ ⟨WF_lu w h5 s1 s2 s3 (by omega) hy hb ho, ?_, ?_, ?_⟩ ?_ ?_ (fun k h1 h2 => by simp (disch := omega) only [u2_r])) ?_ (fun _ _ => rfl)
  · simp (disch := omega) only [u2_s, u2_n, u2_m]
  · have := c'.2.1.2.1
    unfold luT rdR at *
    simp (disch := omega) only [u2_s, u2_n, u2_m]
    exact this
  · have := c'.2.1.2.2.1
    unfold luT rdHm at *
    simp (disch := omega) only [u2_s, u2_n, u2_m]
    exact this
  · obtain ⟨z1, z2, z3⟩ := c'.2.1.2.2.2
    unfold luT
    refine ⟨?_, ?_, fun l hl => ?_⟩
    · simp (disch := omega) only [u2_s, u2_n, u2_m]
    · simp (disch := omega) only [u2_s, u2_n, u2_m]; exact z2
    · simp (disch := omega) only [u2_s, u2_n, u2_m] at hl ⊢
      by_cases e : l = σ 11 0
      · subst e
        simp (disch := omega) only [u2_s, u2_n, u2_m]
        exact ⟨trivial, trivial, trivial, trivial, trivial, trivial⟩
      · simp (disch := omega) only [u2_s, u2_n, u2_m]
        exact z3 l (by omega)
  · simp (disch := omega) only [u2_s, u2_n, u2_m]
  · simp (disch := omega) only [u2_s, u2_n, u2_m]
  · intro k hk; simp (disch := omega) only [u2_r]; exact e1 k hk
end LUMP
