/-! sheet, copy, read -/
section SH2
variable {X : AX} {d : Nat} {Q : Option Value → AH → Prop} {g g2 : Nat → Nat → Int32} {hj hj2 : Nat → Nat → Int64} {σ τ τ2 : ST} {a b a1 a2 a3 a4 a5 : Int32} {t : Nat → Nat} {n : Nat} {h : AH} {s : Nat}
theorem upr_s {α : Type} (f : Nat → Nat → α) (k : Nat) (v : Nat → α) : upr f k v k = v := by simp [upr]
theorem upr_n {α : Type} (f : Nat → Nat → α) {k a : Nat} (v : Nat → α) (h : a ≠ k) : upr f k v a = f a := by simp [upr, h]
theorem l_Sheets_begin {f m : Nat} (hs : s < 4) (hm : m ≤ 48) : ∀ (r i : Nat) (g2 : Nat → Nat → Int32), i + r = m → (∀ k, k ≠ 48 → g2 k = g k) → (∀ x, ¬ (s * 48 ≤ x ∧ x < s * 48 + 48) → g2 48 x = g 48 x) → (∀ x, x < i → g2 48 (s * 48 + x) = nI 0) →
    (∀ g3, (∀ k, k ≠ 48 → g3 k = g k) → (∀ x, ¬ (s * 48 ≤ x ∧ x < s * 48 + 48) → g3 48 x = g 48 x) → (∀ x, x < m → g3 48 (s * 48 + x) = nI 0) → Q none (HP g3 hj)) →
    wp X d m_Sheets_begin 17 [.ref 47, .int (nI s), .int (nI f), .int (nI m), .int (nI i)] [] (HP g2 hj) Q
  | 0, i, g2, hi, e1, e2, e3, K => by
    have : i = m := by omega
    subst this
    rw [s_Sheets_begin_17]
    simp (disch := omega) only [↓s_Sheets_begin_19, ↓s_Sheets_begin_20, ↓s_Sheets_begin_42, nI_leI, nI_ltI, nI_eq, N_z, nI_add, pk_sub, pk_mul, kL_i, kL_r, kL_d, kL_l, kL_k, kL_f, Option.toList_some, Option.toList_none, List.cons_append, List.nil_append, bI_z, N_and, N_or, N_shl, N_shr, Nat.one_mul, Nat.reduceAdd, lg_cmp_eq, L_and, L_or, bI_1, bI_0, if_true, if_false, reduceIte, N_m1x, ite_not, Nat.le_refl]
    exact K g2 e1 e2 e3
  | r + 1, i, g2, hi, e1, e2, e3, K => by
    rw [s_Sheets_begin_17]
    simp (disch := omega) only [↓s_Sheets_begin_19, ↓s_Sheets_begin_20, ↓s_Sheets_begin_23, ↓s_Sheets_begin_24, ↓s_Sheets_begin_27, ↓s_Sheets_begin_28, ↓s_Sheets_begin_30, ↓s_Sheets_begin_31, ↓s_Sheets_begin_33, ↓s_Sheets_begin_34, ↓s_Sheets_begin_35, ↓s_Sheets_begin_36, ↓s_Sheets_begin_39, nI_leI, nI_ltI, nI_eq, N_z, nI_add, pk_sub, pk_mul, kL_i, kL_r, kL_d, kL_l, kL_k, kL_f, Option.toList_some, Option.toList_none, List.cons_append, List.nil_append, bI_z, N_and, N_or, N_shl, N_shr, Nat.one_mul, Nat.reduceAdd, lg_cmp_eq, L_and, L_or, bI_1, bI_0, if_true, if_false, reduceIte, N_m1x, ite_not]
    rw [if_neg (by omega)]
    refine l_Sheets_begin hs hm r (i + 1) _ (by omega) (fun k hk => ?_) (fun x hx => ?_) (fun x hx => ?_) K
    · simp (disch := omega) only [u2_r]; exact e1 k hk
    · simp (disch := omega) only [u2_m]; exact e2 x hx
    · by_cases e : x = i
      · subst e; simp (disch := omega) only [u2_s, u2_n, u2_m]
      · simp (disch := omega) only [u2_s, u2_n, u2_m]; exact e3 x (by omega)
theorem l_M_sheet {f m : Nat} (hs : s < 4) (hm : m ≤ 48) : ∀ (r i : Nat) (g2 : Nat → Nat → Int32), i + r = 48 → (∀ k, k ≠ 84 → g2 k = g k) → (∀ x, ¬ (48 * s ≤ x ∧ x < 48 * s + 48) → g2 84 x = g 84 x) → (∀ x, x < i → g2 84 (48 * s + x) = nI 0) →
    (∀ g3, (∀ k, k ≠ 84 → g3 k = g k) → (∀ x, ¬ (48 * s ≤ x ∧ x < 48 * s + 48) → g3 84 x = g 84 x) → (∀ x, x < 48 → g3 84 (48 * s + x) = nI 0) → Q (some (.int (nI m))) (HP g3 hj)) →
    wp X d m_M_sheet 59 [.ref 51, .int (nI s), .int (nI f), .int (nI m), .int (nI i)] [] (HP g2 hj) Q
  | 0, i, g2, hi, e1, e2, e3, K => by
    have : i = 48 := by omega
    subst this
    rw [s_M_sheet_59]
    simp (disch := omega) only [↓s_M_sheet_61, ↓s_M_sheet_63, ↓s_M_sheet_85, ↓s_M_sheet_86, nI_leI, nI_ltI, nI_eq, N_z, nI_add, pk_sub, pk_mul, kL_i, kL_r, kL_d, kL_l, kL_k, kL_f, Option.toList_some, Option.toList_none, List.cons_append, List.nil_append, bI_z, N_and, N_or, N_shl, N_shr, Nat.one_mul, Nat.reduceAdd, lg_cmp_eq, L_and, L_or, bI_1, bI_0, if_true, if_false, reduceIte, N_m1x, ite_not, Nat.le_refl]
    exact K g2 e1 e2 e3
  | r + 1, i, g2, hi, e1, e2, e3, K => by
    rw [s_M_sheet_59]
    simp (disch := omega) only [↓s_M_sheet_61, ↓s_M_sheet_63, ↓s_M_sheet_66, ↓s_M_sheet_67, ↓s_M_sheet_70, ↓s_M_sheet_72, ↓s_M_sheet_73, ↓s_M_sheet_74, ↓s_M_sheet_76, ↓s_M_sheet_77, ↓s_M_sheet_78, ↓s_M_sheet_79, ↓s_M_sheet_82, nI_leI, nI_ltI, nI_eq, N_z, nI_add, pk_sub, pk_mul, kL_i, kL_r, kL_d, kL_l, kL_k, kL_f, Option.toList_some, Option.toList_none, List.cons_append, List.nil_append, bI_z, N_and, N_or, N_shl, N_shr, Nat.one_mul, Nat.reduceAdd, lg_cmp_eq, L_and, L_or, bI_1, bI_0, if_true, if_false, reduceIte, N_m1x, ite_not]
    rw [if_neg (by omega)]
    refine l_M_sheet hs hm r (i + 1) _ (by omega) (fun k hk => ?_) (fun x hx => ?_) (fun x hx => ?_) K
    · simp (disch := omega) only [u2_r]; exact e1 k hk
    · simp (disch := omega) only [u2_m]; exact e2 x hx
    · by_cases e : x = i
      · subst e; simp (disch := omega) only [u2_s, u2_n, u2_m]
      · simp (disch := omega) only [u2_s, u2_n, u2_m]; exact e3 x (by omega)
theorem WT_sh {f m : Nat} (w : WT τ) (hf : f < 3) (hm : m ≤ 48) : WT (shT τ s f m) := by
  obtain ⟨w1, w2, w3⟩ := w
  unfold shT
  refine ⟨fun x hx => ?_, fun x => ?_, ?_⟩
  · have := w1 x hx
    simp (disch := omega) only [upr_n]
    by_cases e : x = s
    · subst e
      simp (disch := omega) only [u2_s, u2_n, u2_m]
      exact ⟨by omega, hf, hm⟩
    · simp (disch := omega) only [u2_s, u2_n, u2_m]
      exact this
  · rw [upr_s]
    unfold z22
    split
    · omega
    · exact w2 x
  · simp (disch := omega) only [upr_n, u2_r]; exact w3
theorem le48 (h1 : 0 ≤ a) (h2 : a ≤ nI 48) : ∃ m, m ≤ 48 ∧ a = nI m := by
  have : inR a 49 := by
    rw [← inr_eq]
    refine ⟨h1, ?_⟩
    rw [Int32.le_iff_toInt_le, nI_toInt (by omega)] at h2
    rw [Int32.lt_iff_toInt_lt, nI_toInt (by omega)]
    omega
  obtain ⟨m, hm, e⟩ := inR_n this (by omega)
  exact ⟨m, by omega, e⟩
theorem p_C_sheet (c : CR t n σ τ g hj) (K : KC g hj Q (shS t n σ τ a1 a2 a3)) : cwp X (d + 3) m_C_sheet [.ref 0, .int a1, .int a2, .int a3] (HP g hj) Q := by
  unfold shS at K
  simp only [e_C_sheet, ↓s_C_sheet_0, ↓s_C_sheet_1, ↓s_C_sheet_4, ↓s_C_sheet_5, ↓s_C_sheet_8, ↓s_C_sheet_11, ↓s_C_sheet_12, ↓s_C_sheet_15, ↓s_C_sheet_16, ↓s_C_sheet_19, ↓s_C_sheet_22, ↓s_C_sheet_23, ↓s_C_sheet_25, ↓s_C_sheet_28, ↓s_C_sheet_30, c_Sheets_isSheet, c_Sheets_isForm, nI_leI, nI_ltI, nI_eq, N_z, nI_add, pk_sub, pk_mul, kL_i, kL_r, kL_d, kL_l, kL_k, kL_f, Option.toList_some, Option.toList_none, List.cons_append, List.nil_append, bI_z, N_and, N_or, N_shl, N_shr, Nat.one_mul, Nat.reduceAdd, lg_cmp_eq, L_and, L_or, bI_1, bI_0, if_true, if_false, reduceIte, N_m1x, ite_not]
  by_cases h1 : inR a1 4
  case neg =>
    rw [if_neg (fun z => h1 z.1)] at K
    rw [if_neg h1]
    exact KC_0 c K
  rw [if_pos h1]
  by_cases h2 : inR a2 3
  case neg =>
    rw [if_neg (fun z => h2 z.2.1)] at K
    rw [if_neg h2]
    exact KC_0 c K
  rw [if_pos h2]
  by_cases h3 : a3 ≤ nI 48
  case neg =>
    rw [if_neg (fun z => h3 z.2.2)] at K
    rw [if_neg h3]
    exact KC_0 c K
  rw [if_pos h3]
  rw [if_pos ⟨h1, h2, h3⟩] at K
  simp only [↓s_C_sheet_31, ↓s_C_sheet_32, ↓s_C_sheet_35, ↓s_C_sheet_36, ↓s_C_sheet_39, ↓s_C_sheet_40, ↓s_C_sheet_43, c_Sheets_find, nI_leI, nI_ltI, nI_eq, N_z, nI_add, pk_sub, pk_mul, kL_i, kL_r, kL_d, kL_l, kL_k, kL_f, Option.toList_some, Option.toList_none, List.cons_append, List.nil_append, bI_z, N_and, N_or, N_shl, N_shr, Nat.one_mul, Nat.reduceAdd, lg_cmp_eq, L_and, L_or, bI_1, bI_0, if_true, if_false, reduceIte, N_m1x, ite_not]
  by_cases h4 : 0 ≤ a3
  case neg =>
    rw [if_neg h4] at K ⊢
    exact K _ _ (CR_fn c (by omega)) (fun k h1 => by simp (disch := omega) only [u2_r]) (fun _ _ => rfl)
  rw [if_pos h4] at K ⊢
  obtain ⟨s, hs, rfl⟩ := inR_n h1 (by omega)
  obtain ⟨f, hf, rfl⟩ := inR_n h2 (by omega)
  obtain ⟨m, hm, rfl⟩ := le48 h4 h3
  simp (disch := omega) only [nn_n] at K
  obtain ⟨w, c1, c2⟩ := c.2.2.2.2
  simp (disch := omega) only [↓s_C_sheet_44, ↓s_C_sheet_45, ↓s_C_sheet_48, ↓s_C_sheet_49, ↓s_C_sheet_50, ↓s_C_sheet_51, e_Sheets_begin, ↓s_Sheets_begin_0, ↓s_Sheets_begin_1, ↓s_Sheets_begin_4, ↓s_Sheets_begin_5, ↓s_Sheets_begin_6, ↓s_Sheets_begin_7, ↓s_Sheets_begin_8, ↓s_Sheets_begin_11, ↓s_Sheets_begin_12, ↓s_Sheets_begin_13, ↓s_Sheets_begin_14, ↓s_Sheets_begin_15, nI_leI, nI_ltI, nI_eq, N_z, nI_add, pk_sub, pk_mul, kL_i, kL_r, kL_d, kL_l, kL_k, kL_f, Option.toList_some, Option.toList_none, List.cons_append, List.nil_append, bI_z, N_and, N_or, N_shl, N_shr, Nat.one_mul, Nat.reduceAdd, lg_cmp_eq, L_and, L_or, bI_1, bI_0, if_true, if_false, reduceIte, N_m1x, ite_not]
  refine l_Sheets_begin hs hm m 0 _ (by omega) (fun _ _ => rfl) (fun _ _ => rfl) (fun x hx => by omega) (fun g3 x1 x2 x3 => ?_)
  simp (disch := omega) only [↓s_C_sheet_54, ↓s_C_sheet_55, nI_leI, nI_ltI, nI_eq, N_z, nI_add, pk_sub, pk_mul, kL_i, kL_r, kL_d, kL_l, kL_k, kL_f, Option.toList_some, Option.toList_none, List.cons_append, List.nil_append, bI_z, N_and, N_or, N_shl, N_shr, Nat.one_mul, Nat.reduceAdd, lg_cmp_eq, L_and, L_or, bI_1, bI_0, if_true, if_false, reduceIte, N_m1x, ite_not]
  refine K _ _ (CR_sh c ⟨WT_sh w hf hm, ?_, fun x hx => ?_⟩ ?_) ?_ (fun _ _ => rfl)
  · rw [x1 47 (by omega)]
    unfold shT
    simp (disch := omega) only [upr_n, u2_r]; exact c1
  · rw [x1 50 (by omega), x1 49 (by omega)]
    unfold shT
    simp (disch := omega) only [upr_n, upr_s]
    by_cases e : x = s
    · subst e
      simp (disch := omega) only [u2_s, u2_n, u2_m]
      rw [if_neg (by omega)]
      refine ⟨trivial, trivial, fun i hi => ?_⟩
      rw [x3 i hi]
      unfold z22
      rw [if_pos (by omega)]
    · simp (disch := omega) only [u2_s, u2_n, u2_m]
      have := c2 x hx
      have wx := (w.1 x hx).2.2
      split
      · rename_i e0; rw [if_pos e0] at this; exact this
      · rename_i e0
        rw [if_neg e0] at this
        refine ⟨this.1, this.2.1, fun i hi => ?_⟩
        rw [x2 _ (by omega)]
        simp (disch := omega) only [u2_n]
        unfold z22
        rw [if_neg (by omega)]
        exact this.2.2 i hi
  · intro k hk; rw [x1 k (by omega)]; simp (disch := omega) only [u2_r]
  · intro k hk; rw [x1 k (by omega)]; simp (disch := omega) only [u2_r]
theorem p_M_sheet (c : MR t n σ τ g hj) (K : KM g hj Q (shS t n σ τ a1 a2 a3)) : cwp X (d + 3) m_M_sheet [.ref 51, .int a1, .int a2, .int a3] (HP g hj) Q := by
  unfold shS at K
  simp (disch := omega) only [e_M_sheet, ↓s_M_sheet_0, ↓s_M_sheet_1, ↓s_M_sheet_4, ↓s_M_sheet_7, ↓s_M_sheet_8, ↓s_M_sheet_9, ↓s_M_sheet_10, ↓s_M_sheet_13, ↓s_M_sheet_16, ↓s_M_sheet_17, ↓s_M_sheet_19, ↓s_M_sheet_22, ↓s_M_sheet_24, c_M_isSheet, c_M_in, in_c, nI_leI, nI_ltI, nI_eq, N_z, nI_add, pk_sub, pk_mul, kL_i, kL_r, kL_d, kL_l, kL_k, kL_f, Option.toList_some, Option.toList_none, List.cons_append, List.nil_append, bI_z, N_and, N_or, N_shl, N_shr, Nat.one_mul, Nat.reduceAdd, lg_cmp_eq, L_and, L_or, bI_1, bI_0, if_true, if_false, reduceIte, N_m1x, ite_not]
  by_cases h1 : inR a1 4
  case neg =>
    rw [if_neg (fun z => h1 z.1)] at K
    rw [if_neg h1]
    exact KM_0 c K
  rw [if_pos h1]
  by_cases h2 : inR a2 3
  case neg =>
    rw [if_neg (fun z => h2 z.2.1)] at K
    rw [if_neg h2]
    exact KM_0 c K
  rw [if_pos h2]
  by_cases h3 : a3 ≤ nI 48
  case neg =>
    rw [if_neg (fun z => h3 z.2.2)] at K
    rw [if_neg h3]
    exact KM_0 c K
  rw [if_pos h3]
  rw [if_pos ⟨h1, h2, h3⟩] at K
  simp only [↓s_M_sheet_25, ↓s_M_sheet_26, ↓s_M_sheet_29, ↓s_M_sheet_30, ↓s_M_sheet_31, ↓s_M_sheet_34, c_M_meets, nI_leI, nI_ltI, nI_eq, N_z, nI_add, pk_sub, pk_mul, kL_i, kL_r, kL_d, kL_l, kL_k, kL_f, Option.toList_some, Option.toList_none, List.cons_append, List.nil_append, bI_z, N_and, N_or, N_shl, N_shr, Nat.one_mul, Nat.reduceAdd, lg_cmp_eq, L_and, L_or, bI_1, bI_0, if_true, if_false, reduceIte, N_m1x, ite_not]
  by_cases h4 : 0 ≤ a3
  case neg =>
    rw [if_neg h4] at K ⊢
    exact K _ _ (MR_fn c (by omega)) (fun k h1 => by simp (disch := omega) only [u2_r]) (fun _ _ => rfl)
  rw [if_pos h4] at K ⊢
  obtain ⟨s, hs, rfl⟩ := inR_n h1 (by omega)
  obtain ⟨f, hf, rfl⟩ := inR_n h2 (by omega)
  obtain ⟨m, hm, rfl⟩ := le48 h4 h3
  simp (disch := omega) only [nn_n] at K
  obtain ⟨w, c1, c2⟩ := c.2.2.2
  simp (disch := omega) only [↓s_M_sheet_35, ↓s_M_sheet_36, ↓s_M_sheet_39, ↓s_M_sheet_40, ↓s_M_sheet_41_0, ↓s_M_sheet_41_1, ↓s_M_sheet_42, ↓s_M_sheet_43, ↓s_M_sheet_46, ↓s_M_sheet_47, ↓s_M_sheet_48, ↓s_M_sheet_49, ↓s_M_sheet_50, ↓s_M_sheet_53, ↓s_M_sheet_54, ↓s_M_sheet_55, ↓s_M_sheet_56, ↓s_M_sheet_57, nI_leI, nI_ltI, nI_eq, N_z, nI_add, pk_sub, pk_mul, kL_i, kL_r, kL_d, kL_l, kL_k, kL_f, Option.toList_some, Option.toList_none, List.cons_append, List.nil_append, bI_z, N_and, N_or, N_shl, N_shr, Nat.one_mul, Nat.reduceAdd, lg_cmp_eq, L_and, L_or, bI_1, bI_0, if_true, if_false, reduceIte, N_m1x, ite_not]
  refine l_M_sheet hs hm 48 0 _ (by omega) (fun _ _ => rfl) (fun _ _ => rfl) (fun x hx => by omega) (fun g3 x1 x2 x3 => ?_)
  refine K _ _ (MR_sh c ⟨WT_sh w hf hm, ?_, fun x hx => ?_⟩ ?_ ?_) ?_ (fun _ _ => rfl)
  · rw [x1 51 (by omega)]
    unfold shT
    simp (disch := omega) only [upr_n, u2_r]; exact c1
  · rw [x1 81 (by omega), x1 82 (by omega), x1 83 (by omega)]
    unfold shT
    simp (disch := omega) only [upr_n, upr_s]
    by_cases e : x = s
    · subst e
      simp (disch := omega) only [u2_s, u2_n, u2_m]
      refine ⟨trivial, fun _ => ⟨trivial, trivial, fun i hi => ?_⟩⟩
      rw [x3 i (by omega)]
      unfold z22
      rw [if_pos (by omega)]
    · simp (disch := omega) only [u2_s, u2_n, u2_m]
      have := c2 x hx
      have wx := (w.1 x hx).2.2
      refine ⟨this.1, fun z => ?_⟩
      have this := this.2 z
      refine ⟨this.1, this.2.1, fun i hi => ?_⟩
      rw [x2 _ (by omega)]
      simp (disch := omega) only [u2_n]
      unfold z22
      rw [if_neg (by omega)]
      exact this.2.2 i hi
  · intro k hk; rw [x1 51 (by omega)]; simp (disch := omega) only [u2_r]
  · intro k hk hk2; rw [x1 k (by omega)]; simp (disch := omega) only [u2_r]
  · intro k hk; rw [x1 k (by omega)]; simp (disch := omega) only [u2_r]
/-- copy -/
theorem p0 (h : 0 ≤ a) : ∃ k, k < 2147483648 ∧ a = nI k := by
  have e0 : (0 : Int32).toInt = 0 := rfl
  rw [Int32.le_iff_toInt_le, e0] at h
  have h2 := Int32.toInt_lt a
  refine ⟨a.toInt.toNat, by omega, ?_⟩
  apply Int32.toInt_inj.mp
  rw [nI_toInt (by omega)]
  omega
theorem hit_k {i m : Nat} (hi : i < 2147483648) (hm : m < 2147483648) : (hit τ s (nI i) (nI m) = true) = (i + m ≤ τ 21 s) := by
  unfold hit
  rw [decide_eq_true_eq, nn_n hi, nn_n hm]
  apply propext
  exact ⟨fun z => z.2.2, fun z => ⟨nI_pos' (by omega), nI_pos' (by omega), z⟩⟩
theorem hit_n (h : ¬ 0 ≤ a ∨ ¬ 0 ≤ b) : hit τ s a b = false := by
  unfold hit
  rw [decide_eq_false_iff_not]
  rintro ⟨z1, z2, _⟩
  rcases h with h | h
  · exact h z1
  · exact h z2
theorem c_Sheets_hasItems (c : CS τ g) (hs : s < 4) (h0 : τ 19 s ≠ 0) : cwp X d m_Sheets_hasItems [.ref 47, .int (nI s), .int a, .int b] (HP g hj) Q = Q (some (.int (bI (hit τ s a b = true)))) (HP g hj) := by
  have h1 := c.2.2 s hs
  rw [if_neg h0] at h1
  have w := c.1.1 s hs
  simp (disch := omega) only [e_Sheets_hasItems, ↓s_Sheets_hasItems_0, ↓s_Sheets_hasItems_1, ↓s_Sheets_hasItems_4, ↓s_Sheets_hasItems_5, ↓s_Sheets_hasItems_8, ↓s_Sheets_hasItems_9, ↓s_Sheets_hasItems_10, ↓s_Sheets_hasItems_13, ↓s_Sheets_hasItems_14, ↓s_Sheets_hasItems_15, ↓s_Sheets_hasItems_18, ↓s_Sheets_hasItems_19, ↓s_Sheets_hasItems_20, ↓s_Sheets_hasItems_23, ↓s_Sheets_hasItems_24, ↓s_Sheets_hasItems_25, ↓s_Sheets_hasItems_26, ↓s_Sheets_hasItems_27, ↓s_Sheets_hasItems_30, ↓s_Sheets_hasItems_31, ↓s_Sheets_hasItems_34, ↓s_Sheets_hasItems_35_0, ↓s_Sheets_hasItems_35_1, ↓s_Sheets_hasItems_35_b, nI_leI, nI_ltI, nI_eq, N_z, nI_add, pk_sub, pk_mul, kL_i, kL_r, kL_d, kL_l, kL_k, kL_f, Option.toList_some, Option.toList_none, List.cons_append, List.nil_append, bI_z, N_and, N_or, N_shl, N_shr, Nat.one_mul, Nat.reduceAdd, lg_cmp_eq, L_and, L_or, bI_1, bI_0, if_true, if_false, reduceIte, N_m1x, ite_not, h1.1]
  by_cases h2 : a < 0
  · rw [if_pos h2, hit_n (Or.inl (Int32.not_le.mpr h2))]
    rfl
  rw [if_neg h2]
  by_cases h3 : b < 0
  · rw [if_pos h3, hit_n (Or.inr (Int32.not_le.mpr h3))]
    rfl
  rw [if_neg h3]
  obtain ⟨i, hi, rfl⟩ := p0 (Int32.not_lt.mp h2)
  obtain ⟨m, hm, rfl⟩ := p0 (Int32.not_lt.mp h3)
  simp only [hit_k hi hm]
  simp (disch := omega) only [nI_ltI]
  by_cases h4 : τ 21 s < i
  · rw [if_pos h4, bI_f (by omega)]
  rw [if_neg h4, pk_sub (by omega)]
  simp (disch := omega) only [nI_ltI]
  by_cases h5 : τ 21 s - i < m
  · rw [if_pos h5, bI_f (by omega)]
  · rw [if_neg h5, bI_t (by omega)]
theorem WT_cp {i u j m : Nat} (w : WT τ) : WT (cpT τ s i u j m) := by
  obtain ⟨w1, w2, w3⟩ := w
  unfold cpT
  refine ⟨?_, fun x => ?_, ?_⟩
  · simp (disch := omega) only [upr_n]; exact w1
  · rw [upr_s]
    unfold va_cpy
    split
    · exact w2 _
    · exact w2 _
  · simp (disch := omega) only [upr_n]; exact w3
theorem p_C_copy (c : CR t n σ τ g hj) (K : KC g hj Q (cpS t n σ τ a1 a2 a3 a4 a5)) : cwp X (d + 3) m_C_copy [.ref 0, .int a1, .int a2, .int a3, .int a4, .int a5] (HP g hj) Q := by
  unfold cpS at K
  simp only [e_C_copy, ↓s_C_copy_0, ↓s_C_copy_1, ↓s_C_copy_4, ↓s_C_copy_5, ↓s_C_copy_8, ↓s_C_copy_11, ↓s_C_copy_12, ↓s_C_copy_15, ↓s_C_copy_16, ↓s_C_copy_19, ↓s_C_copy_22, ↓s_C_copy_24, c_Sheets_isSheet, nI_leI, nI_ltI, nI_eq, N_z, nI_add, pk_sub, pk_mul, kL_i, kL_r, kL_d, kL_l, kL_k, kL_f, Option.toList_some, Option.toList_none, List.cons_append, List.nil_append, bI_z, N_and, N_or, N_shl, N_shr, Nat.one_mul, Nat.reduceAdd, lg_cmp_eq, L_and, L_or, bI_1, bI_0, if_true, if_false, reduceIte, N_m1x, ite_not]
  by_cases h1 : inR a1 4
  case neg =>
    rw [if_neg (fun z => h1 z.1)] at K
    rw [if_neg h1]
    exact KC_0 c K
  rw [if_pos h1]
  by_cases h2 : inR a3 4
  case neg =>
    rw [if_neg (fun z => h2 z.2)] at K
    rw [if_neg h2]
    exact KC_0 c K
  rw [if_pos h2]
  rw [if_pos ⟨h1, h2⟩] at K
  obtain ⟨s, hs, rfl⟩ := inR_n h1 (by omega)
  obtain ⟨u, hu, rfl⟩ := inR_n h2 (by omega)
  rw [nn_n (show s < 2147483648 by omega), nn_n (show u < 2147483648 by omega)] at K
  have c5 := c.2.2.2.2
  obtain ⟨w, c1, c2⟩ := id c5
  have ws := w.1 s hs
  have wu := w.1 u hu
  simp (disch := omega) only [↓s_C_copy_25, ↓s_C_copy_26, ↓s_C_copy_29, ↓s_C_copy_30, ↓s_C_copy_33, ↓s_C_copy_36, ↓s_C_copy_37, ↓s_C_copy_40, ↓s_C_copy_41, ↓s_C_copy_44, ↓s_C_copy_47, ↓s_C_copy_48, ↓s_C_copy_51, ↓s_C_copy_52, ↓s_C_copy_55, c_Sheets_isLost c5 hs, c_Sheets_isLost c5 hu, c_Sheets_find, nI_leI, nI_ltI, nI_eq, N_z, nI_add, pk_sub, pk_mul, kL_i, kL_r, kL_d, kL_l, kL_k, kL_f, Option.toList_some, Option.toList_none, List.cons_append, List.nil_append, bI_z, N_and, N_or, N_shl, N_shr, Nat.one_mul, Nat.reduceAdd, lg_cmp_eq, L_and, L_or, bI_1, bI_0, if_true, if_false, reduceIte, N_m1x, ite_not]
  by_cases h3 : τ 19 s = 0
  · rw [if_pos (Or.inl h3)] at K
    rw [if_pos h3]
    exact K _ _ (CR_fn c (by omega)) (fun k h1 => by simp (disch := omega) only [u2_r]) (fun _ _ => rfl)
  rw [if_neg h3]
  by_cases h4 : τ 19 u = 0
  · rw [if_pos (Or.inr h4)] at K
    rw [if_pos h4]
    exact K _ _ (CR_fn c (by omega)) (fun k h1 => by simp (disch := omega) only [u2_r]) (fun _ _ => rfl)
  rw [if_neg h4]
  rw [if_neg (by rintro (z | z); exact h3 z; exact h4 z)] at K
  have es := c2 s hs
  have eu := c2 u hu
  rw [if_neg h3] at es
  rw [if_neg h4] at eu
  simp (disch := omega) only [↓s_C_copy_56, ↓s_C_copy_57, ↓s_C_copy_60, ↓s_C_copy_63, ↓s_C_copy_64, ↓s_C_copy_65, ↓s_C_copy_66, ↓s_C_copy_69, ↓s_C_copy_72, ↓s_C_copy_73, ↓s_C_copy_74, ↓s_C_copy_77, ↓s_C_copy_78, ↓s_C_copy_81, ↓s_C_copy_82, ↓s_C_copy_85, es.2.1, eu.2.1, c_Sheets_find, nI_leI, nI_ltI, nI_eq, N_z, nI_add, pk_sub, pk_mul, kL_i, kL_r, kL_d, kL_l, kL_k, kL_f, Option.toList_some, Option.toList_none, List.cons_append, List.nil_append, bI_z, N_and, N_or, N_shl, N_shr, Nat.one_mul, Nat.reduceAdd, lg_cmp_eq, L_and, L_or, bI_1, bI_0, if_true, if_false, reduceIte, N_m1x, ite_not]
  by_cases h5 : τ 20 s = τ 20 u
  case neg =>
    rw [if_neg h5] at K ⊢
    exact K _ _ (CR_fn c (by omega)) (fun k h1 => by simp (disch := omega) only [u2_r]) (fun _ _ => rfl)
  rw [if_pos h5] at K ⊢
  simp (disch := omega) only [↓s_C_copy_86, ↓s_C_copy_87, ↓s_C_copy_90, ↓s_C_copy_91, ↓s_C_copy_92, ↓s_C_copy_94, ↓s_C_copy_97, ↓s_C_copy_100, ↓s_C_copy_101, ↓s_C_copy_104, ↓s_C_copy_105, ↓s_C_copy_107, ↓s_C_copy_109, ↓s_C_copy_112, ↓s_C_copy_115, ↓s_C_copy_116, ↓s_C_copy_119, ↓s_C_copy_120, ↓s_C_copy_123, c_Sheets_hasItems c5 hs h3, c_Sheets_hasItems c5 hu h4, c_Sheets_find, nI_leI, nI_ltI, nI_eq, N_z, nI_add, pk_sub, pk_mul, kL_i, kL_r, kL_d, kL_l, kL_k, kL_f, Option.toList_some, Option.toList_none, List.cons_append, List.nil_append, bI_z, N_and, N_or, N_shl, N_shr, Nat.one_mul, Nat.reduceAdd, lg_cmp_eq, L_and, L_or, bI_1, bI_0, if_true, if_false, reduceIte, N_m1x, ite_not]
  by_cases h6 : hit τ s a2 a5 = true
  case neg =>
    rw [if_neg (fun z => h6 z.1)] at K
    rw [if_neg h6]
    exact K _ _ (CR_fn c (by omega)) (fun k h1 => by simp (disch := omega) only [u2_r]) (fun _ _ => rfl)
  rw [if_pos h6]
  by_cases h7 : hit τ u a4 a5 = true
  case neg =>
    rw [if_neg (fun z => h7 z.2)] at K
    rw [if_neg h7]
    exact K _ _ (CR_fn c (by omega)) (fun k h1 => by simp (disch := omega) only [u2_r]) (fun _ _ => rfl)
  rw [if_pos h7]
  rw [if_pos ⟨h6, h7⟩] at K
  obtain ⟨y1, y2, y3⟩ := of_decide_eq_true h6
  obtain ⟨y4, y5, y6⟩ := of_decide_eq_true h7
  obtain ⟨i, hi, rfl⟩ := p0 y1
  obtain ⟨m, hm, rfl⟩ := p0 y2
  obtain ⟨j, hj0, rfl⟩ := p0 y4
  simp (disch := omega) only [nn_n] at K y3 y6
  simp (disch := omega) only [↓s_C_copy_124, ↓s_C_copy_125, ↓s_C_copy_128, ↓s_C_copy_129, ↓s_C_copy_130, ↓s_C_copy_131, ↓s_C_copy_133, ↓s_C_copy_135, ↓s_C_copy_138, ↓s_C_copy_139, e_Sheets_move, ↓s_Sheets_move_0, ↓s_Sheets_move_1, ↓s_Sheets_move_4, ↓s_Sheets_move_5, ↓s_Sheets_move_7, ↓s_Sheets_move_8, ↓s_Sheets_move_9, ↓s_Sheets_move_10, ↓s_Sheets_move_11, ↓s_Sheets_move_14, ↓s_Sheets_move_15, ↓s_Sheets_move_17, ↓s_Sheets_move_18, ↓s_Sheets_move_20, ↓s_Sheets_move_21, ↓s_Sheets_move_23, ↓s_Sheets_move_26, nI_leI, nI_ltI, nI_eq, N_z, nI_add, pk_sub, pk_mul, kL_i, kL_r, kL_d, kL_l, kL_k, kL_f, Option.toList_some, Option.toList_none, List.cons_append, List.nil_append, bI_z, N_and, N_or, N_shl, N_shr, Nat.one_mul, Nat.reduceAdd, lg_cmp_eq, L_and, L_or, bI_1, bI_0, if_true, if_false, reduceIte, N_m1x, ite_not]
  refine K _ _ (CR_sh c ⟨WT_cp w, ?_, fun x hx => ?_⟩ ?_) ?_ (fun _ _ => rfl)
  · unfold cpT; simp (disch := omega) only [upr_n]; exact c1
  · unfold cpT
    simp (disch := omega) only [upr_n, upr_s]
    have := c2 x hx
    have wx := (w.1 x hx).2.2
    split
    · rename_i e0; rw [if_pos e0] at this; exact this
    · rename_i e0
      rw [if_neg e0] at this
      refine ⟨this.1, this.2.1, fun k hk => ?_⟩
      unfold va_cpy
      by_cases e1 : u * 48 + j ≤ x * 48 + k ∧ x * 48 + k < u * 48 + j + m
      · rw [if_pos e1, if_pos (by omega)]
        have e2 := es.2.2 (i + (x * 48 + k - (u * 48 + j))) (by omega)
        rw [← Nat.add_assoc] at e2
        rw [e2]
        congr 2
        omega
      · rw [if_neg e1, if_neg (by omega)]
        exact this.2.2 k hk
  · intro k hk; simp (disch := omega) only [upr_n]
  · intro k hk; simp (disch := omega) only [upr_n]
end SH2
