/-! acts on the line and the rings: answer and new state -/
abbrev SS := (Nat → Nat) × Nat × ST × ST × Int32
def KC (g : Nat → Nat → Int32) (hj : Nat → Nat → Int64) (Q : Option Value → AH → Prop) (s : SS) : Prop := ∀ g' hj', CR s.1 s.2.1 s.2.2.1 s.2.2.2.1 g' hj' → (∀ k, 51 ≤ k → g' k = g k) → (∀ k, 51 ≤ k → hj' k = hj k) → Q (some (.int s.2.2.2.2)) (HP g' hj')
def KM (g : Nat → Nat → Int32) (hj : Nat → Nat → Int64) (Q : Option Value → AH → Prop) (s : SS) : Prop := ∀ g' hj', MR s.1 s.2.1 s.2.2.1 s.2.2.2.1 g' hj' → (∀ k, k ≤ 50 → g' k = g k) → (∀ k, k ≤ 50 → hj' k = hj k) → Q (some (.int s.2.2.2.2)) (HP g' hj')
def tyS (t : Nat → Nat) (n : Nat) (σ τ : ST) (a : Int32) : SS := if inR a 256 then (if n < 40 then (pu t n (nn a), n + 1, σ, τ, nI (n + 1)) else (t, n, σ, τ, -4)) else (t, n, σ, τ, -2)
def wiS (t : Nat → Nat) (n : Nat) (σ τ : ST) : SS := (t, 0, σ, τ, nI n)
def sc (t : Nat → Nat) (n : Nat) : Int32 × Nat × Nat := scan t n 50 0 0 0 0
def ftS (t : Nat → Nat) (n : Nat) (σ τ : ST) : SS := (t, n, σ, τ, (sc t n).1)
def rgT (σ : ST) (mk : Nat) : ST := up2 (up2 (up2 (up2 σ 3 (σ 2 0) mk) 4 (σ 2 0) 0) 5 (σ 2 0) 0) 2 0 (σ 2 0 + 1)
def rgS (t : Nat → Nat) (n : Nat) (σ τ : ST) : SS := if (sc t n).1 = -1 ∧ (sc t n).2.2 = 0 then (if σ 2 0 < 6 then (t, 0, rgT σ (sc t n).2.1, τ, nI (σ 2 0)) else (t, n, σ, τ, -4)) else (t, n, σ, τ, -3)
def anT (σ : ST) (r o y : Nat) : ST := up2 (up2 σ 4 r (o + 1)) 5 r (y + 1)
def anS (t : Nat → Nat) (n : Nat) (σ τ : ST) (a1 a2 a3 : Int32) : SS := if inR a1 (σ 2 0) ∧ inR a2 (nn a1) ∧ inR a3 60 then (if σ 4 (nn a1) = 0 ∧ nwr σ (nn a2) = 0 then (t, n, anT σ (nn a1) (nn a2) (nn a3), τ, nI 1) else (t, n, σ, τ, -3)) else (t, n, σ, τ, -2)
def heT (σ : ST) (r p f y : Nat) : ST := up2 (up2 (up2 (up2 (up2 σ 7 (σ 6 0) r) 8 (σ 6 0) p) 9 (σ 6 0) f) 10 (σ 6 0) y) 6 0 (σ 6 0 + 1)
def heS (t : Nat → Nat) (n : Nat) (σ τ : ST) (a1 a2 a3 a4 : Int32) : SS := if inR a1 (σ 2 0) ∧ inR a2 8 ∧ inR a3 60 ∧ inR a4 60 ∧ nn a3 ≤ nn a4 then (if σ 6 0 < 12 then (t, n, heT σ (nn a1) (nn a2) (nn a3) (nn a4), τ, nI (σ 6 0)) else (t, n, σ, τ, -4)) else (t, n, σ, τ, -2)
def asT (σ : ST) (b : Nat) : ST := up2 σ 18 0 b
def asS (t : Nat → Nat) (n : Nat) (σ τ : ST) (a : Int32) : SS := if inR a (2 ^ σ 11 0) then (t, n, asT σ (nn a), τ, nI (σ 18 0)) else (t, n, σ, τ, -2)
section ACTS
variable {X : AX} {d : Nat} {Q : Option Value → AH → Prop} {g g2 : Nat → Nat → Int32} {hj hj2 : Nat → Nat → Int64} {σ τ : ST} {a b a1 a2 a3 a4 : Int32} {t : Nat → Nat} {n : Nat} {h : AH}
theorem KC_0 {v : Int32} (c : CR t n σ τ g hj) (K : KC g hj Q (t, n, σ, τ, v)) : Q (some (.int v)) (HP g hj) := K g hj c (fun _ _ => rfl) (fun _ _ => rfl)
theorem KM_0 {v : Int32} (c : MR t n σ τ g hj) (K : KM g hj Q (t, n, σ, τ, v)) : Q (some (.int v)) (HP g hj) := K g hj c (fun _ _ => rfl) (fun _ _ => rfl)
theorem CR_line (c : CR t n σ τ g hj) {t2 : Nat → Nat} {n2 : Nat} (h1 : rdL g2 1 1 2 t2 n2) (e : ∀ k, 3 ≤ k → k ≤ 50 → g2 k = g k) : CR t2 n2 σ τ g2 hj :=
  ⟨h1, C0_cg c.2.1 (fun k _ _ => e k (by omega) (by omega)) rfl, CW_cg c.2.2.1 (fun k _ _ => e k (by omega) (by omega)) rfl, CG_cg c.2.2.2.1 (fun k _ _ => e k (by omega) (by omega)), CS_cg c.2.2.2.2 (fun k _ _ => e k (by omega) (by omega))⟩
theorem CR_G2 (c : CR t n σ τ g hj) : CR t n σ τ (G2 g 1 2 3 a b) hj :=
  CR_line c (rdL_G2 c.1 (by omega) (by omega) (by omega)) (by unfold G2; exact (fun k h1 h2 => by simp (disch := omega) only [u2_r]))
theorem MR_line (c : MR t n σ τ g hj) {t2 : Nat → Nat} {n2 : Nat} (h1 : rdL g2 51 0 52 t2 n2) (e : ∀ k, 4 ≤ k → g2 51 k = g 51 k) (e2 : ∀ k, 53 ≤ k → g2 k = g k) : MR t2 n2 σ τ g2 hj :=
  ⟨h1, M0_cg c.2.1 (e _ (by omega)) (e _ (by omega)) (e _ (by omega)) (e _ (by omega)) (fun k _ _ => e2 k (by omega)), MW_cg c.2.2.1 (e _ (by omega)) (e _ (by omega)) (e _ (by omega)) (fun k hk => e2 k (by omega)) rfl, MS_cg c.2.2.2 (e _ (by omega)) (fun k _ _ => e2 k (by omega))⟩
theorem MR_G2 (c : MR t n σ τ g hj) : MR t n σ τ (G2 g 51 2 3 a b) hj :=
  MR_line c (rdL_G2 c.1 (by omega) (by omega) (by omega)) (fun k hk => G2_o (by omega) (by omega)) (by unfold G2; exact (fun k h1 => by simp (disch := omega) only [u2_r]))
theorem G2_c {i j k : Nat} (hk : 51 ≤ k) : G2 g 1 i j a b k = g k := by unfold G2; simp (disch := omega) only [u2_r]
theorem G2_m {i j k : Nat} (hk : k ≤ 50) : G2 g 51 i j a b k = g k := by unfold G2; simp (disch := omega) only [u2_r]
theorem c_Line_fault (hr : rdL g 1 1 2 t n) : cwp X (d + 2) m_Line_findFault [.ref 1] (HP g hj) Q = Q (some (.int (sc t n).1)) (HP (G2 g 1 2 3 (nI (sc t n).2.1) (nI (sc t n).2.2)) hj) := c_Line_findFault hr
theorem p_C_type (c : CR t n σ τ g hj) (K : KC g hj Q (tyS t n σ τ a)) : cwp X (d + 1) m_C_type [.ref 0, .int a] (HP g hj) Q := by
  obtain ⟨q1, q2, q3, q4⟩ := id c.1
  unfold tyS at K
  simp only [e_C_type, ↓s_C_type_0, ↓s_C_type_1, ↓s_C_type_4, ↓s_C_type_7, ↓s_C_type_10, ↓s_C_type_11, ↓s_C_type_14, ↓s_C_type_15, ↓s_C_type_18, ↓s_C_type_21, ↓s_C_type_23, c_C_isBelowN, nI_leI, nI_ltI, nI_eq, N_z, nI_add, pk_sub, pk_mul, kL_i, kL_r, kL_d, kL_l, kL_k, kL_f, Option.toList_some, Option.toList_none, List.cons_append, List.nil_append, bI_z, N_and, N_or, N_shl, N_shr, Nat.one_mul, Nat.reduceAdd, lg_cmp_eq, L_and, L_or, bI_1, bI_0, if_true, if_false, reduceIte, N_m1x, ite_not]
  by_cases h1 : inR a 256
  · rw [if_pos h1] at K ⊢
    obtain ⟨b, hb, rfl⟩ := inR_n h1 (by omega)
    rw [nn_n (by omega)] at K
    by_cases h2 : n < 40
    · rw [if_pos h2] at K
      simp (disch := omega) only [e_Line_append, ↓s_Line_append_0, ↓s_Line_append_1, ↓s_Line_append_4, ↓s_Line_append_6, ↓s_Line_append_9, ↓s_Line_append_11, ↓s_Line_append_12, ↓s_Line_append_13, ↓s_Line_append_16, ↓s_Line_append_17, ↓s_Line_append_20, ↓s_Line_append_21, ↓s_Line_append_22, ↓s_Line_append_23, ↓s_Line_append_24, ↓s_Line_append_27, ↓s_Line_append_28, ↓s_Line_append_29, ↓s_Line_append_32, ↓s_Line_append_33, ↓s_Line_append_36, ↓s_C_type_0, ↓s_C_type_1, ↓s_C_type_4, ↓s_C_type_7, ↓s_C_type_10, ↓s_C_type_11, ↓s_C_type_14, ↓s_C_type_15, ↓s_C_type_18, ↓s_C_type_21, ↓s_C_type_23, nI_leI, nI_ltI, nI_eq, N_z, nI_add, pk_sub, pk_mul, kL_i, kL_r, kL_d, kL_l, kL_k, kL_f, Option.toList_some, Option.toList_none, List.cons_append, List.nil_append, bI_z, N_and, N_or, N_shl, N_shr, Nat.one_mul, Nat.reduceAdd, lg_cmp_eq, L_and, L_or, bI_1, bI_0, if_true, if_false, reduceIte, N_m1x, ite_not, u2_s, u2_n, u2_m, q1, h2]
      refine K _ _ (CR_line (t2 := pu t n b) (n2 := n + 1) c ⟨?_, by omega, ?_, ?_⟩ (fun k h1 h2 => by simp (disch := omega) only [u2_r])) (fun k h1 => by simp (disch := omega) only [u2_r]) (fun _ _ => rfl)
      · simp (disch := omega) only [u2_s, u2_n, u2_m]
      · intro i hi
        by_cases e : i = n
        · subst e
          simp (disch := omega) only [u2_s, u2_n, u2_m, pu_s]
        · simp (disch := omega) only [u2_s, u2_n, u2_m, pu_n]
          exact q3 i (by omega)
      · intro i
        show pu t n b i < 256
        unfold pu
        split
        · exact hb
        · exact q4 i
    · rw [if_neg h2] at K
      simp (disch := omega) only [e_Line_append, ↓s_Line_append_0, ↓s_Line_append_1, ↓s_Line_append_4, ↓s_Line_append_6, ↓s_Line_append_9, ↓s_Line_append_11, ↓s_Line_append_12, ↓s_Line_append_13, ↓s_Line_append_16, ↓s_Line_append_17, ↓s_Line_append_20, ↓s_Line_append_21, ↓s_Line_append_22, ↓s_Line_append_23, ↓s_Line_append_24, ↓s_Line_append_27, ↓s_Line_append_28, ↓s_Line_append_29, ↓s_Line_append_32, ↓s_Line_append_33, ↓s_Line_append_36, ↓s_C_type_0, ↓s_C_type_1, ↓s_C_type_4, ↓s_C_type_7, ↓s_C_type_10, ↓s_C_type_11, ↓s_C_type_14, ↓s_C_type_15, ↓s_C_type_18, ↓s_C_type_21, ↓s_C_type_23, nI_leI, nI_ltI, nI_eq, N_z, nI_add, pk_sub, pk_mul, kL_i, kL_r, kL_d, kL_l, kL_k, kL_f, Option.toList_some, Option.toList_none, List.cons_append, List.nil_append, bI_z, N_and, N_or, N_shl, N_shr, Nat.one_mul, Nat.reduceAdd, lg_cmp_eq, L_and, L_or, bI_1, bI_0, if_true, if_false, reduceIte, N_m1x, ite_not, q1, h2]
      exact KC_0 c K
  · rw [if_neg h1] at K ⊢
    exact KC_0 c K
theorem p_M_type (c : MR t n σ τ g hj) (K : KM g hj Q (tyS t n σ τ a)) : cwp X (d + 1) m_M_type [.ref 51, .int a] (HP g hj) Q := by
  obtain ⟨q1, q2, q3, q4⟩ := id c.1
  unfold tyS at K
  simp (disch := omega) only [e_M_type, ↓s_M_type_0, ↓s_M_type_1, ↓s_M_type_2, ↓s_M_type_5, ↓s_M_type_8, ↓s_M_type_11, ↓s_M_type_13, c_M_in, in_c, nI_leI, nI_ltI, nI_eq, N_z, nI_add, pk_sub, pk_mul, kL_i, kL_r, kL_d, kL_l, kL_k, kL_f, Option.toList_some, Option.toList_none, List.cons_append, List.nil_append, bI_z, N_and, N_or, N_shl, N_shr, Nat.one_mul, Nat.reduceAdd, lg_cmp_eq, L_and, L_or, bI_1, bI_0, if_true, if_false, reduceIte, N_m1x, ite_not]
  by_cases h1 : inR a 256
  · rw [if_pos h1] at K ⊢
    obtain ⟨b, hb, rfl⟩ := inR_n h1 (by omega)
    rw [nn_n (by omega)] at K
    by_cases h2 : n < 40
    · rw [if_pos h2] at K
      simp (disch := omega) only [↓s_M_type_0, ↓s_M_type_1, ↓s_M_type_2, ↓s_M_type_5, ↓s_M_type_8, ↓s_M_type_11, ↓s_M_type_13, ↓s_M_type_14, ↓s_M_type_15, ↓s_M_type_18, ↓s_M_type_20, ↓s_M_type_23, ↓s_M_type_25, ↓s_M_type_26, ↓s_M_type_27, ↓s_M_type_30, ↓s_M_type_31, ↓s_M_type_34, ↓s_M_type_35, ↓s_M_type_36, ↓s_M_type_37, ↓s_M_type_38, ↓s_M_type_41, ↓s_M_type_42, ↓s_M_type_43, ↓s_M_type_46, ↓s_M_type_47, ↓s_M_type_50, nI_leI, nI_ltI, nI_eq, N_z, nI_add, pk_sub, pk_mul, kL_i, kL_r, kL_d, kL_l, kL_k, kL_f, Option.toList_some, Option.toList_none, List.cons_append, List.nil_append, bI_z, N_and, N_or, N_shl, N_shr, Nat.one_mul, Nat.reduceAdd, lg_cmp_eq, L_and, L_or, bI_1, bI_0, if_true, if_false, reduceIte, N_m1x, ite_not, u2_s, u2_n, u2_m, q1]
      rw [if_neg (by omega)]
      refine K _ _ (MR_line (t2 := pu t n b) (n2 := n + 1) c ⟨?_, by omega, ?_, ?_⟩ (fun k hk => by simp (disch := omega) only [u2_s, u2_n, u2_m]) (fun k h1 => by simp (disch := omega) only [u2_r])) (fun k h1 => by simp (disch := omega) only [u2_r]) (fun _ _ => rfl)
      · simp (disch := omega) only [u2_s, u2_n, u2_m]
      · intro i hi
        by_cases e : i = n
        · subst e
          simp (disch := omega) only [u2_s, u2_n, u2_m, pu_s]
        · simp (disch := omega) only [u2_s, u2_n, u2_m, pu_n]
          exact q3 i (by omega)
      · intro i
        show pu t n b i < 256
        unfold pu
        split
        · exact hb
        · exact q4 i
    · rw [if_neg h2] at K
      simp (disch := omega) only [↓s_M_type_0, ↓s_M_type_1, ↓s_M_type_2, ↓s_M_type_5, ↓s_M_type_8, ↓s_M_type_11, ↓s_M_type_13, ↓s_M_type_14, ↓s_M_type_15, ↓s_M_type_18, ↓s_M_type_20, ↓s_M_type_23, ↓s_M_type_25, ↓s_M_type_26, ↓s_M_type_27, ↓s_M_type_30, ↓s_M_type_31, ↓s_M_type_34, ↓s_M_type_35, ↓s_M_type_36, ↓s_M_type_37, ↓s_M_type_38, ↓s_M_type_41, ↓s_M_type_42, ↓s_M_type_43, ↓s_M_type_46, ↓s_M_type_47, ↓s_M_type_50, nI_leI, nI_ltI, nI_eq, N_z, nI_add, pk_sub, pk_mul, kL_i, kL_r, kL_d, kL_l, kL_k, kL_f, Option.toList_some, Option.toList_none, List.cons_append, List.nil_append, bI_z, N_and, N_or, N_shl, N_shr, Nat.one_mul, Nat.reduceAdd, lg_cmp_eq, L_and, L_or, bI_1, bI_0, if_true, if_false, reduceIte, N_m1x, ite_not, q1]
      rw [if_pos (by omega)]
      exact KM_0 c K
  · rw [if_neg h1] at K ⊢
    exact KM_0 c K
theorem p_C_wipe (c : CR t n σ τ g hj) (K : KC g hj Q (wiS t n σ τ)) : cwp X (d + 1) m_C_wipe [.ref 0] (HP g hj) Q := by
  obtain ⟨q1, q2, q3, q4⟩ := id c.1
  simp only [e_C_wipe, ↓s_C_wipe_0, ↓s_C_wipe_1, ↓s_C_wipe_4, ↓s_C_wipe_7, e_Line_clear, ↓s_Line_clear_0, ↓s_Line_clear_1, ↓s_Line_clear_4, ↓s_Line_clear_5, ↓s_Line_clear_6, ↓s_Line_clear_7, ↓s_Line_clear_10, ↓s_Line_clear_11, nI_leI, nI_ltI, nI_eq, N_z, nI_add, pk_sub, pk_mul, kL_i, kL_r, kL_d, kL_l, kL_k, kL_f, Option.toList_some, Option.toList_none, List.cons_append, List.nil_append, bI_z, N_and, N_or, N_shl, N_shr, Nat.one_mul, Nat.reduceAdd, lg_cmp_eq, L_and, L_or, bI_1, bI_0, if_true, if_false, reduceIte, N_m1x, ite_not, q1]
  refine K _ _ (CR_line c ⟨?_, by show 0 ≤ 40; omega, fun i hi => absurd hi (Nat.not_lt_zero i), q4⟩ (fun k h1 h2 => by simp (disch := omega) only [u2_r])) (fun k h1 => by simp (disch := omega) only [u2_r]) (fun _ _ => rfl)
  simp only [u2_s, u2_n, u2_m]
  rfl
theorem p_M_wipe (c : MR t n σ τ g hj) (K : KM g hj Q (wiS t n σ τ)) : cwp X (d + 1) m_M_wipe [.ref 51] (HP g hj) Q := by
  obtain ⟨q1, q2, q3, q4⟩ := id c.1
  simp only [e_M_wipe, ↓s_M_wipe_0, ↓s_M_wipe_1, ↓s_M_wipe_4, ↓s_M_wipe_5, ↓s_M_wipe_6, ↓s_M_wipe_7, ↓s_M_wipe_10, ↓s_M_wipe_11, nI_leI, nI_ltI, nI_eq, N_z, nI_add, pk_sub, pk_mul, kL_i, kL_r, kL_d, kL_l, kL_k, kL_f, Option.toList_some, Option.toList_none, List.cons_append, List.nil_append, bI_z, N_and, N_or, N_shl, N_shr, Nat.one_mul, Nat.reduceAdd, lg_cmp_eq, L_and, L_or, bI_1, bI_0, if_true, if_false, reduceIte, N_m1x, ite_not, q1]
  refine K _ _ (MR_line c ⟨?_, by show 0 ≤ 40; omega, fun i hi => absurd hi (Nat.not_lt_zero i), q4⟩ (fun k hk => by simp (disch := omega) only [u2_s, u2_n, u2_m]) (fun k h1 => by simp (disch := omega) only [u2_r])) (fun k h1 => by simp (disch := omega) only [u2_r]) (fun _ _ => rfl)
  simp only [u2_s, u2_n, u2_m]
  rfl
theorem p_C_fault (c : CR t n σ τ g hj) (K : KC g hj Q (ftS t n σ τ)) : cwp X (d + 3) m_C_fault [.ref 0] (HP g hj) Q := by
  simp only [e_C_fault, ↓s_C_fault_0, ↓s_C_fault_1, ↓s_C_fault_4, ↓s_C_fault_7, c_Line_fault c.1, nI_leI, nI_ltI, nI_eq, N_z, nI_add, pk_sub, pk_mul, kL_i, kL_r, kL_d, kL_l, kL_k, kL_f, Option.toList_some, Option.toList_none, List.cons_append, List.nil_append, bI_z, N_and, N_or, N_shl, N_shr, Nat.one_mul, Nat.reduceAdd, lg_cmp_eq, L_and, L_or, bI_1, bI_0, if_true, if_false, reduceIte, N_m1x, ite_not]
  exact K _ _ (CR_G2 c) (fun k hk => G2_c hk) (fun _ _ => rfl)
theorem c_M_faultR (c : MR t n σ τ g hj) (K : ∀ g', MR t n σ τ g' hj → (∀ k, k ≤ 50 → g' k = g k) → g' 51 2 = nI (sc t n).2.1 → g' 51 3 = nI (sc t n).2.2 → Q (some (.int (sc t n).1)) (HP g' hj)) : cwp X (d + 2) m_M_faultNow [.ref 51] (HP g hj) Q := by
  rw [c_M_faultNow c.1]
  exact K _ (MR_G2 c) (fun k hk => G2_m hk) (G2_i (by omega)) G2_j
theorem p_M_fault (c : MR t n σ τ g hj) (K : KM g hj Q (ftS t n σ τ)) : cwp X (d + 3) m_M_fault [.ref 51] (HP g hj) Q := by
  simp only [e_M_fault, ↓s_M_fault_0, ↓s_M_fault_1, ↓s_M_fault_4]
  refine c_M_faultR c (fun g' c' e1 _ _ => ?_)
  simp only [↓s_M_fault_0, ↓s_M_fault_1, ↓s_M_fault_4, nI_leI, nI_ltI, nI_eq, N_z, nI_add, pk_sub, pk_mul, kL_i, kL_r, kL_d, kL_l, kL_k, kL_f, Option.toList_some, Option.toList_none, List.cons_append, List.nil_append, bI_z, N_and, N_or, N_shl, N_shr, Nat.one_mul, Nat.reduceAdd, lg_cmp_eq, L_and, L_or, bI_1, bI_0, if_true, if_false, reduceIte, N_m1x, ite_not]
  exact K g' hj c' e1 (fun _ _ => rfl)
/-- what the scan has laid down when there is no fault -/
theorem sh_lt {c k mk : Nat} (h : mk < 2 ^ c) : mk ||| (2 ^ k - 1) * 2 ^ c < 2 ^ (c + k) := by
  have h1 : 2 ^ (c + k) = 2 ^ k * 2 ^ c := by rw [Nat.pow_add, Nat.mul_comm]
  have h2 : 0 < 2 ^ c := Nat.two_pow_pos c
  have h3 : 1 ≤ 2 ^ k := Nat.one_le_two_pow
  refine Nat.or_lt_two_pow (Nat.lt_of_lt_of_le h (pow_le (by omega))) ?_
  rw [h1, Nat.sub_mul]
  have : 1 * 2 ^ c ≤ 2 ^ k * 2 ^ c := Nat.mul_le_mul_right _ h3
  omega
theorem sh_tb {c k i : Nat} : ((2 ^ k - 1) * 2 ^ c).testBit i = true → c ≤ i := by
  rw [Nat.testBit_mul_two_pow]
  intro h
  simp at h
  exact h.1
theorem lt_tb {a c i : Nat} (h : a < 2 ^ c) (hi : c ≤ i) : a.testBit i = false := Nat.testBit_lt_two_pow (Nat.lt_of_lt_of_le h (pow_le hi))
theorem sh_dj {s c k mk un : Nat} (h1 : mk < 2 ^ c) (h2 : un < 2 ^ c) (h3 : mk &&& un = 0) : shm s mk c k < 2 ^ (c + k) ∧ shu s un c k < 2 ^ (c + k) ∧ shm s mk c k &&& shu s un c k = 0 := by
  have p1 : mk < 2 ^ (c + k) := Nat.lt_of_lt_of_le h1 (pow_le (by omega))
  have p2 : un < 2 ^ (c + k) := Nat.lt_of_lt_of_le h2 (pow_le (by omega))
  unfold shm shu
  by_cases e1 : s = 35
  · subst e1
    rw [if_pos rfl, if_neg (by omega)]
    refine ⟨sh_lt h1, p2, and0.mpr (fun e he => ?_)⟩
    rw [Nat.testBit_or, Bool.or_eq_true] at he
    rcases he with he | he
    · exact and0.mp h3 e he
    · exact lt_tb h2 (sh_tb he)
  · rw [if_neg e1]
    by_cases e2 : s = 63
    · rw [if_pos e2]
      refine ⟨p1, sh_lt h2, ?_⟩
      rw [Nat.and_comm]
      rw [Nat.and_comm] at h3
      refine and0.mpr (fun e he => ?_)
      rw [Nat.testBit_or, Bool.or_eq_true] at he
      rcases he with he | he
      · exact and0.mp h3 e he
      · exact lt_tb h1 (sh_tb he)
    · rw [if_neg e2]
      exact ⟨p1, p2, h3⟩
theorem scan_ok : ∀ (f p c mk un : Nat), c ≤ 16 → mk < 2 ^ c → un < 2 ^ c → mk &&& un = 0 → (scan t n f p c mk un).2.1 < 65536 ∧ (scan t n f p c mk un).2.2 < 65536 ∧ (scan t n f p c mk un).2.1 &&& (scan t n f p c mk un).2.2 = 0
  | 0, p, c, mk, un, h0, h1, h2, h3 => ⟨Nat.lt_of_lt_of_le h1 (pow_le h0), Nat.lt_of_lt_of_le h2 (pow_le h0), h3⟩
  | f + 1, p, c, mk, un, h0, h1, h2, h3 => by
    have B : mk < 65536 ∧ un < 65536 ∧ mk &&& un = 0 := ⟨Nat.lt_of_lt_of_le h1 (pow_le h0), Nat.lt_of_lt_of_le h2 (pow_le h0), h3⟩
    unfold scan
    by_cases e1 : n ≤ p
    · rw [if_pos e1]; exact B
    · rw [if_neg e1]
      by_cases e2 : ¬ (t p = 35 ∨ t p = 46 ∨ t p = 63) ∨ 16 ≤ c
      · rw [if_pos e2]; exact B
      · rw [if_neg e2]
        by_cases e3 : p + 1 < n ∧ t (p + 1) = 42
        · rw [if_pos e3]
          by_cases e4 : fg t n (p + 2) ∧ 2 ≤ nmb t n (p + 2) ∧ nmb t n (p + 2) ≤ 16 - c
          · rw [if_pos e4]
            obtain ⟨x1, x2, x3⟩ := sh_dj (s := t p) (k := nmb t n (p + 2)) h1 h2 h3
            exact scan_ok f _ _ _ _ (by omega) x1 x2 x3
          · rw [if_neg e4]; exact B
        · rw [if_neg e3]
          obtain ⟨x1, x2, x3⟩ := sh_dj (s := t p) (k := 1) h1 h2 h3
          have : ¬ 16 ≤ c := fun z => e2 (Or.inr z)
          exact scan_ok f _ _ _ _ (by omega) x1 x2 x3
theorem sc_ok : (sc t n).2.1 < 65536 ∧ (sc t n).2.2 < 65536 ∧ (sc t n).2.1 &&& (sc t n).2.2 = 0 := scan_ok 50 0 0 0 0 (by omega) (by decide) (by decide) rfl
end ACTS
