/-! sheets -/
def vN (v : Int32) : Nat := v.toBitVec.toNat
theorem vN_lt (v : Int32) : vN v < 4294967296 := v.toBitVec.isLt
theorem nI_vN (v : Int32) : nI (vN v) = v := by
  apply Int32.toBitVec_inj.mp
  apply BitVec.eq_of_toNat_eq
  show (BitVec.ofNat 32 _).toNat = _
  rw [BitVec.toNat_ofNat]
  exact Nat.mod_eq_of_lt v.toBitVec.isLt
def fnT (τ : ST) (k : Nat) : ST := up2 τ 23 0 k
def fnA (k : Nat) : Int32 := -10 - nI k
def z22 (τ : ST) (s : Nat) : Nat → Nat := fun x => if 48 * s ≤ x ∧ x < 48 * s + 48 then 0 else τ 22 x
def shT (τ : ST) (s f m : Nat) : ST := upr (up2 (up2 (up2 τ 19 s 1) 20 s f) 21 s m) 22 (z22 τ s)
def shS (t : Nat → Nat) (n : Nat) (σ τ : ST) (a1 a2 a3 : Int32) : SS := if inR a1 4 ∧ inR a2 3 ∧ a3 ≤ nI 48 then (if 0 ≤ a3 then (t, n, σ, shT τ (nn a1) (nn a2) (nn a3), a3) else (t, n, σ, fnT τ 5, fnA 5)) else (t, n, σ, τ, -2)
def loS (t : Nat → Nat) (n : Nat) (σ τ : ST) (a1 : Int32) : SS := if inR a1 4 then (if τ 19 (nn a1) = 0 then (t, n, σ, fnT τ 1, fnA 1) else (t, n, σ, up2 τ 19 (nn a1) 0, nI (τ 21 (nn a1)))) else (t, n, σ, τ, -2)
def lack (τ : ST) (s : Nat) (f i : Int32) : Nat := if τ 19 s = 0 then 1 else if nI (τ 20 s) = f then (if inR i (τ 21 s) then 0 else 2) else 3
theorem lack_le (τ : ST) (s : Nat) (f i : Int32) : lack τ s f i ≤ 3 := by
  unfold lack
  repeat' split
  all_goals omega
def kpv (τ : ST) (s : Nat) (v : Int32) : Int32 := if τ 20 s = 0 then v.toInt8.toInt32 else if τ 20 s = 1 then v.toInt16.toInt32 else v
def puT (τ : ST) (s i : Nat) (v : Int32) : ST := up2 τ 22 (48 * s + i) (vN (kpv τ s v))
def puS (t : Nat → Nat) (n : Nat) (σ τ : ST) (a1 a2 a3 a4 : Int32) : SS := if inR a1 4 ∧ inR a2 3 then (if lack τ (nn a1) a2 a3 = 0 then (t, n, σ, puT τ (nn a1) (nn a3) a4, nI 1) else (t, n, σ, fnT τ (lack τ (nn a1) a2 a3), fnA (lack τ (nn a1) a2 a3))) else (t, n, σ, τ, -2)
def geS (t : Nat → Nat) (n : Nat) (σ τ : ST) (a1 a2 a3 : Int32) : SS := if inR a1 4 ∧ inR a2 3 then (if lack τ (nn a1) a2 a3 = 0 then (t, n, σ, τ, nI (τ 22 (48 * nn a1 + nn a3))) else (t, n, σ, fnT τ (lack τ (nn a1) a2 a3), -2147483648)) else (t, n, σ, τ, -2147483648)
def hit (τ : ST) (s : Nat) (i m : Int32) : Bool := decide (0 ≤ i ∧ 0 ≤ m ∧ nn i + nn m ≤ τ 21 s)
def cpT (τ : ST) (s i u j m : Nat) : ST := upr τ 22 (va_cpy (τ 22) (τ 22) (48 * s + i) (48 * u + j) m)
def cpS (t : Nat → Nat) (n : Nat) (σ τ : ST) (a1 a2 a3 a4 a5 : Int32) : SS := if inR a1 4 ∧ inR a3 4 then (if τ 19 (nn a1) = 0 ∨ τ 19 (nn a3) = 0 then (t, n, σ, fnT τ 1, fnA 1) else if τ 20 (nn a1) = τ 20 (nn a3) then (if hit τ (nn a1) a2 a5 = true ∧ hit τ (nn a3) a4 a5 = true then (t, n, σ, cpT τ (nn a1) (nn a2) (nn a3) (nn a4) (nn a5), nI 1) else (t, n, σ, fnT τ 2, fnA 2)) else (t, n, σ, fnT τ 4, fnA 4)) else (t, n, σ, τ, -2)
section SHEETS
variable {X : AX} {d : Nat} {Q : Option Value → AH → Prop} {g g2 : Nat → Nat → Int32} {hj hj2 : Nat → Nat → Int64} {σ τ τ2 : ST} {a b a1 a2 a3 a4 a5 : Int32} {t : Nat → Nat} {n : Nat} {h : AH} {s : Nat}
theorem CR_sh (c : CR t n σ τ g hj) (h1 : CS τ2 g2) (e : ∀ k, k ≤ 46 → g2 k = g k) : CR t n σ τ2 g2 hj :=
  ⟨rdL_cg c.1 (by rw [e 1 (by omega)]) (e 2 (by omega)), C0_cg c.2.1 (fun k _ _ => e k (by omega)) rfl, CW_cg c.2.2.1 (fun k _ _ => e k (by omega)) rfl, CG_cg c.2.2.2.1 (fun k _ _ => e k (by omega)), h1⟩
theorem MR_sh (c : MR t n σ τ g hj) (h1 : MS τ2 g2) (e : ∀ k, k ≤ 44 → g2 51 k = g 51 k) (e2 : ∀ k, 52 ≤ k → k ≤ 80 → g2 k = g k) : MR t n σ τ2 g2 hj :=
  ⟨rdL_cg c.1 (e 0 (by omega)) (e2 52 (by omega) (by omega)), M0_cg c.2.1 (e _ (by omega)) (e _ (by omega)) (e _ (by omega)) (e _ (by omega)) (fun k _ _ => e2 k (by omega) (by omega)), MW_cg c.2.2.1 (e _ (by omega)) (e _ (by omega)) (e _ (by omega)) (fun k hk => e2 k (by omega) (by omega)) rfl, h1⟩
theorem WT_fn {k : Nat} (w : WT τ) (hk : k ≤ 5) : WT (fnT τ k) := by
  obtain ⟨w1, w2, w3⟩ := w
  unfold fnT
  refine ⟨?_, ?_, ?_⟩
  · simp (disch := omega) only [u2_r]; exact w1
  · simp (disch := omega) only [u2_r]; exact w2
  · simp (disch := omega) only [u2_s, u2_n, u2_m]; exact hk
theorem c_Sheets_find {k : Nat} : cwp X d m_Sheets_find [.ref 47, .int (nI k)] (HP g hj) Q = Q (some (.int (fnA k))) (HP (up2 g 47 3 (nI k)) hj) := by
  simp only [e_Sheets_find, ↓s_Sheets_find_0, ↓s_Sheets_find_1, ↓s_Sheets_find_2, ↓s_Sheets_find_5, ↓s_Sheets_find_7, ↓s_Sheets_find_8, ↓s_Sheets_find_9]
  rfl
theorem CR_fn {k : Nat} (c : CR t n σ τ g hj) (hk : k ≤ 5) : CR t n σ (fnT τ k) (up2 g 47 3 (nI k)) hj := by
  obtain ⟨w, c1, c2⟩ := c.2.2.2.2
  refine CR_sh c ⟨WT_fn w hk, ?_, ?_⟩ (fun k h1 => by simp (disch := omega) only [u2_r])
  · unfold fnT; simp (disch := omega) only [u2_s, u2_n, u2_m]
  · unfold fnT; simp (disch := omega) only [u2_r]; exact c2
theorem c_M_meets {k : Nat} : cwp X d m_M_meets [.ref 51, .int (nI k)] (HP g hj) Q = Q (some (.int (fnA k))) (HP (up2 g 51 45 (nI k)) hj) := by
  simp only [e_M_meets, ↓s_M_meets_0, ↓s_M_meets_1, ↓s_M_meets_2, ↓s_M_meets_5, ↓s_M_meets_7, ↓s_M_meets_8, ↓s_M_meets_9]
  rfl
theorem MR_fn {k : Nat} (c : MR t n σ τ g hj) (hk : k ≤ 5) : MR t n σ (fnT τ k) (up2 g 51 45 (nI k)) hj := by
  obtain ⟨w, c1, c2⟩ := c.2.2.2
  refine MR_sh c ⟨WT_fn w hk, ?_, ?_⟩ (fun k hk => by simp (disch := omega) only [u2_s, u2_n, u2_m]) (fun k h1 h2 => by simp (disch := omega) only [u2_r])
  · unfold fnT; simp (disch := omega) only [u2_s, u2_n, u2_m]
  · unfold fnT; simp (disch := omega) only [u2_r]; exact c2
theorem c_Sheets_isSheet : cwp X (d + 1) m_Sheets_isSheet [.ref 47, .int a] (HP g hj) Q = Q (some (.int (bI (inR a 4)))) (HP g hj) := by
  simp only [e_Sheets_isSheet, ↓s_Sheets_isSheet_0, ↓s_Sheets_isSheet_1, ↓s_Sheets_isSheet_2, ↓s_Sheets_isSheet_5_0, ↓s_Sheets_isSheet_5_1, ↓s_Sheets_isSheet_5_b, c_C_isBelowN, nI_leI, nI_ltI, nI_eq, N_z, nI_add, pk_sub, pk_mul, kL_i, kL_r, kL_d, kL_l, kL_k, kL_f, Option.toList_some, Option.toList_none, List.cons_append, List.nil_append, bI_z, N_and, N_or, N_shl, N_shr, Nat.one_mul, Nat.reduceAdd, lg_cmp_eq, L_and, L_or, bI_1, bI_0, if_true, if_false, reduceIte, N_m1x, ite_not]
theorem c_Sheets_isForm : cwp X (d + 1) m_Sheets_isForm [.ref 47, .int a] (HP g hj) Q = Q (some (.int (bI (inR a 3)))) (HP g hj) := by
  simp only [e_Sheets_isForm, ↓s_Sheets_isForm_0, ↓s_Sheets_isForm_1, ↓s_Sheets_isForm_2, ↓s_Sheets_isForm_5_0, ↓s_Sheets_isForm_5_1, ↓s_Sheets_isForm_5_b, c_C_isBelowN, nI_leI, nI_ltI, nI_eq, N_z, nI_add, pk_sub, pk_mul, kL_i, kL_r, kL_d, kL_l, kL_k, kL_f, Option.toList_some, Option.toList_none, List.cons_append, List.nil_append, bI_z, N_and, N_or, N_shl, N_shr, Nat.one_mul, Nat.reduceAdd, lg_cmp_eq, L_and, L_or, bI_1, bI_0, if_true, if_false, reduceIte, N_m1x, ite_not]
theorem c_M_isSheet : cwp X (d + 1) m_M_isSheet [.int a] h Q = Q (some (.int (bI (inR a 4)))) h := by
  simp (disch := omega) only [e_M_isSheet, ↓s_M_isSheet_0, ↓s_M_isSheet_1, ↓s_M_isSheet_2, ↓s_M_isSheet_3, ↓s_M_isSheet_6_0, ↓s_M_isSheet_6_1, ↓s_M_isSheet_6_b, c_M_in, in_c, nI_leI, nI_ltI, nI_eq, N_z, nI_add, pk_sub, pk_mul, kL_i, kL_r, kL_d, kL_l, kL_k, kL_f, Option.toList_some, Option.toList_none, List.cons_append, List.nil_append, bI_z, N_and, N_or, N_shl, N_shr, Nat.one_mul, Nat.reduceAdd, lg_cmp_eq, L_and, L_or, bI_1, bI_0, if_true, if_false, reduceIte, N_m1x, ite_not]
theorem c_Sheets_isLost (c : CS τ g) (hs : s < 4) : cwp X d m_Sheets_isLost [.ref 47, .int (nI s)] (HP g hj) Q = Q (some (.int (bI (τ 19 s = 0)))) (HP g hj) := by
  have h1 := c.2.2 s hs
  have w := c.1.1 s hs
  simp (disch := omega) only [e_Sheets_isLost, ↓s_Sheets_isLost_0, ↓s_Sheets_isLost_1, ↓s_Sheets_isLost_4, ↓s_Sheets_isLost_5, ↓s_Sheets_isLost_6, ↓s_Sheets_isLost_7, ↓s_Sheets_isLost_10, ↓s_Sheets_isLost_11, ↓s_Sheets_isLost_14, ↓s_Sheets_isLost_15_0, ↓s_Sheets_isLost_15_1, ↓s_Sheets_isLost_15_b, nI_leI, nI_ltI, nI_eq, N_z, nI_add, pk_sub, pk_mul, kL_i, kL_r, kL_d, kL_l, kL_k, kL_f, Option.toList_some, Option.toList_none, List.cons_append, List.nil_append, bI_z, N_and, N_or, N_shl, N_shr, Nat.one_mul, Nat.reduceAdd, lg_cmp_eq, L_and, L_or, bI_1, bI_0, if_true, if_false, reduceIte, N_m1x, ite_not]
  by_cases h0 : τ 19 s = 0
  · rw [if_pos h0] at h1
    rw [if_pos h1, bI_t h0]
  · rw [if_neg h0] at h1
    rw [h1.1, if_neg (fun z => by rw [nI_ne1 (by omega)] at z; exact z), bI_f h0]
theorem p_C_lose (c : CR t n σ τ g hj) (K : KC g hj Q (loS t n σ τ a)) : cwp X (d + 3) m_C_lose [.ref 0, .int a] (HP g hj) Q := by
  unfold loS at K
  simp only [e_C_lose, ↓s_C_lose_0, ↓s_C_lose_1, ↓s_C_lose_4, ↓s_C_lose_5, ↓s_C_lose_8, ↓s_C_lose_11, ↓s_C_lose_13, c_Sheets_isSheet, nI_leI, nI_ltI, nI_eq, N_z, nI_add, pk_sub, pk_mul, kL_i, kL_r, kL_d, kL_l, kL_k, kL_f, Option.toList_some, Option.toList_none, List.cons_append, List.nil_append, bI_z, N_and, N_or, N_shl, N_shr, Nat.one_mul, Nat.reduceAdd, lg_cmp_eq, L_and, L_or, bI_1, bI_0, if_true, if_false, reduceIte, N_m1x, ite_not]
  by_cases h1 : inR a 4
  case neg =>
    rw [if_neg h1] at K ⊢
    exact KC_0 c K
  rw [if_pos h1] at K ⊢
  obtain ⟨s, hs, rfl⟩ := inR_n h1 (by omega)
  rw [nn_n (by omega)] at K
  have c5 := c.2.2.2.2
  obtain ⟨w, c1, c2⟩ := id c5
  simp (disch := omega) only [↓s_C_lose_14, ↓s_C_lose_15, ↓s_C_lose_18, ↓s_C_lose_19, ↓s_C_lose_22, ↓s_C_lose_25, ↓s_C_lose_26, ↓s_C_lose_29, ↓s_C_lose_30, ↓s_C_lose_33, c_Sheets_isLost c5 hs, c_Sheets_find, nI_leI, nI_ltI, nI_eq, N_z, nI_add, pk_sub, pk_mul, kL_i, kL_r, kL_d, kL_l, kL_k, kL_f, Option.toList_some, Option.toList_none, List.cons_append, List.nil_append, bI_z, N_and, N_or, N_shl, N_shr, Nat.one_mul, Nat.reduceAdd, lg_cmp_eq, L_and, L_or, bI_1, bI_0, if_true, if_false, reduceIte, N_m1x, ite_not]
  by_cases h2 : τ 19 s = 0
  · rw [if_pos h2] at K ⊢
    exact K _ _ (CR_fn c (by omega)) (fun k h1 => by simp (disch := omega) only [u2_r]) (fun _ _ => rfl)
  · rw [if_neg h2] at K ⊢
    have e := c2 s hs
    rw [if_neg h2] at e
    simp (disch := omega) only [↓s_C_lose_34, ↓s_C_lose_35, ↓s_C_lose_38, ↓s_C_lose_41, ↓s_C_lose_42, ↓s_C_lose_43, ↓s_C_lose_44, ↓s_C_lose_45, ↓s_C_lose_48, ↓s_C_lose_51, ↓s_C_lose_52, ↓s_C_lose_53, ↓s_C_lose_54, ↓s_C_lose_55, e.1, nI_leI, nI_ltI, nI_eq, N_z, nI_add, pk_sub, pk_mul, kL_i, kL_r, kL_d, kL_l, kL_k, kL_f, Option.toList_some, Option.toList_none, List.cons_append, List.nil_append, bI_z, N_and, N_or, N_shl, N_shr, Nat.one_mul, Nat.reduceAdd, lg_cmp_eq, L_and, L_or, bI_1, bI_0, if_true, if_false, reduceIte, N_m1x, ite_not]
    refine K _ _ (CR_sh c ⟨?_, ?_, ?_⟩ (fun k h1 => by simp (disch := omega) only [u2_r])) (fun k h1 => by simp (disch := omega) only [u2_r]) (fun _ _ => rfl)
    · obtain ⟨w1, w2, w3⟩ := w
      refine ⟨fun x hx => ?_, ?_, ?_⟩
      · by_cases e : x = s
        · subst e
          simp (disch := omega) only [u2_s, u2_n, u2_m]
          exact ⟨by omega, (w1 x hx).2⟩
        · simp (disch := omega) only [u2_s, u2_n, u2_m]
          exact w1 x hx
      · simp (disch := omega) only [u2_r]; exact w2
      · simp (disch := omega) only [u2_r]; exact w3
    · simp (disch := omega) only [u2_s, u2_n, u2_m]; exact c1
    · intro x hx
      by_cases e : x = s
      · subst e
        simp (disch := omega) only [u2_s, u2_n, u2_m, if_true]
      · simp (disch := omega) only [u2_s, u2_n, u2_m]
        exact c2 x hx
theorem MS_0 (c : MS τ g) (hs : s < 4) : (g 81 s = 0) = (τ 19 s = 0) := by
  have w := (c.1.1 s hs).1
  rw [(c.2.2 s hs).1]
  exact propext (N_z (by omega))
theorem p_M_lose (c : MR t n σ τ g hj) (K : KM g hj Q (loS t n σ τ a)) : cwp X (d + 3) m_M_lose [.ref 51, .int a] (HP g hj) Q := by
  unfold loS at K
  simp only [e_M_lose, ↓s_M_lose_0, ↓s_M_lose_1, ↓s_M_lose_4, ↓s_M_lose_7, ↓s_M_lose_9, c_M_isSheet, nI_leI, nI_ltI, nI_eq, N_z, nI_add, pk_sub, pk_mul, kL_i, kL_r, kL_d, kL_l, kL_k, kL_f, Option.toList_some, Option.toList_none, List.cons_append, List.nil_append, bI_z, N_and, N_or, N_shl, N_shr, Nat.one_mul, Nat.reduceAdd, lg_cmp_eq, L_and, L_or, bI_1, bI_0, if_true, if_false, reduceIte, N_m1x, ite_not]
  by_cases h1 : inR a 4
  case neg =>
    rw [if_neg h1] at K ⊢
    exact KM_0 c K
  rw [if_pos h1] at K ⊢
  obtain ⟨s, hs, rfl⟩ := inR_n h1 (by omega)
  rw [nn_n (by omega)] at K
  have c5 := c.2.2.2
  obtain ⟨w, c1, c2⟩ := id c5
  simp (disch := omega) only [↓s_M_lose_10, ↓s_M_lose_11, ↓s_M_lose_14, ↓s_M_lose_15, ↓s_M_lose_16, ↓s_M_lose_19, ↓s_M_lose_20, ↓s_M_lose_21, ↓s_M_lose_24, c_M_meets, nI_leI, nI_ltI, nI_eq, N_z, nI_add, pk_sub, pk_mul, kL_i, kL_r, kL_d, kL_l, kL_k, kL_f, Option.toList_some, Option.toList_none, List.cons_append, List.nil_append, bI_z, N_and, N_or, N_shl, N_shr, Nat.one_mul, Nat.reduceAdd, lg_cmp_eq, L_and, L_or, bI_1, bI_0, if_true, if_false, reduceIte, N_m1x, ite_not, MS_0 c5 hs]
  by_cases h2 : τ 19 s = 0
  · rw [if_pos h2] at K ⊢
    exact K _ _ (MR_fn c (by omega)) (fun k h1 => by simp (disch := omega) only [u2_r]) (fun _ _ => rfl)
  · rw [if_neg h2] at K ⊢
    have e := (c2 s hs).2 (by have := (w.1 s hs).1; omega)
    simp (disch := omega) only [↓s_M_lose_25, ↓s_M_lose_26, ↓s_M_lose_29, ↓s_M_lose_30, ↓s_M_lose_31_0, ↓s_M_lose_31_1, ↓s_M_lose_32, ↓s_M_lose_33, ↓s_M_lose_36, ↓s_M_lose_37, ↓s_M_lose_38, e.1, nI_leI, nI_ltI, nI_eq, N_z, nI_add, pk_sub, pk_mul, kL_i, kL_r, kL_d, kL_l, kL_k, kL_f, Option.toList_some, Option.toList_none, List.cons_append, List.nil_append, bI_z, N_and, N_or, N_shl, N_shr, Nat.one_mul, Nat.reduceAdd, lg_cmp_eq, L_and, L_or, bI_1, bI_0, if_true, if_false, reduceIte, N_m1x, ite_not, u2_s, u2_n, u2_m]
    refine K _ _ (MR_sh c ⟨?_, ?_, ?_⟩ (fun k hk => by simp (disch := omega) only [u2_s, u2_n, u2_m]) (fun k h1 h2 => by simp (disch := omega) only [u2_r])) (fun k h1 => by simp (disch := omega) only [u2_r]) (fun _ _ => rfl)
    · obtain ⟨w1, w2, w3⟩ := w
      refine ⟨fun x hx => ?_, ?_, ?_⟩
      · by_cases e : x = s
        · subst e
          simp (disch := omega) only [u2_s, u2_n, u2_m]
          exact ⟨by omega, (w1 x hx).2⟩
        · simp (disch := omega) only [u2_s, u2_n, u2_m]
          exact w1 x hx
      · simp (disch := omega) only [u2_r]; exact w2
      · simp (disch := omega) only [u2_r]; exact w3
    · simp (disch := omega) only [u2_s, u2_n, u2_m]; exact c1
    · intro x hx
      by_cases e : x = s
      · subst e
        simp (disch := omega) only [u2_s, u2_n, u2_m]
        exact ⟨trivial, fun z => by omega⟩
      · simp (disch := omega) only [u2_s, u2_n, u2_m]
        exact c2 x hx
theorem c_Sheets_findingAt (c : CS τ g) (hs : s < 4) : cwp X (d + 1) m_Sheets_findingAt [.ref 47, .int (nI s), .int a, .int b] (HP g hj) Q = Q (some (.int (nI (lack τ s a b)))) (HP g hj) := by
  unfold lack
  have h1 := c.2.2 s hs
  have w := c.1.1 s hs
  simp (disch := omega) only [e_Sheets_findingAt, ↓s_Sheets_findingAt_0, ↓s_Sheets_findingAt_1, ↓s_Sheets_findingAt_2, ↓s_Sheets_findingAt_5, ↓s_Sheets_findingAt_8, ↓s_Sheets_findingAt_9, c_Sheets_isLost c hs, nI_leI, nI_ltI, nI_eq, N_z, nI_add, pk_sub, pk_mul, kL_i, kL_r, kL_d, kL_l, kL_k, kL_f, Option.toList_some, Option.toList_none, List.cons_append, List.nil_append, bI_z, N_and, N_or, N_shl, N_shr, Nat.one_mul, Nat.reduceAdd, lg_cmp_eq, L_and, L_or, bI_1, bI_0, if_true, if_false, reduceIte, N_m1x, ite_not]
  by_cases h0 : τ 19 s = 0
  · rw [if_pos h0, if_pos h0]
  · rw [if_neg h0] at h1
    rw [if_neg h0, if_neg h0]
    simp (disch := omega) only [↓s_Sheets_findingAt_10, ↓s_Sheets_findingAt_11, ↓s_Sheets_findingAt_14, ↓s_Sheets_findingAt_15, ↓s_Sheets_findingAt_16, ↓s_Sheets_findingAt_17, ↓s_Sheets_findingAt_20, ↓s_Sheets_findingAt_21, ↓s_Sheets_findingAt_22, ↓s_Sheets_findingAt_23, ↓s_Sheets_findingAt_24, ↓s_Sheets_findingAt_27, ↓s_Sheets_findingAt_28, ↓s_Sheets_findingAt_29, ↓s_Sheets_findingAt_32, ↓s_Sheets_findingAt_35, ↓s_Sheets_findingAt_36, ↓s_Sheets_findingAt_39, ↓s_Sheets_findingAt_40, h1.1, h1.2.1, c_C_isBelowN, nI_leI, nI_ltI, nI_eq, N_z, nI_add, pk_sub, pk_mul, kL_i, kL_r, kL_d, kL_l, kL_k, kL_f, Option.toList_some, Option.toList_none, List.cons_append, List.nil_append, bI_z, N_and, N_or, N_shl, N_shr, Nat.one_mul, Nat.reduceAdd, lg_cmp_eq, L_and, L_or, bI_1, bI_0, if_true, if_false, reduceIte, N_m1x, ite_not]
    by_cases h2 : nI (τ 20 s) = a
    · rw [if_pos h2, if_pos h2]
      by_cases h3 : inR b (τ 21 s)
      · rw [if_pos h3, if_pos h3]
      · rw [if_neg h3, if_neg h3]
    · rw [if_neg h2, if_neg h2]
theorem c_M_lacks (c : MS τ g) (hs : s < 4) : cwp X (d + 1) m_M_lacks [.ref 51, .int (nI s), .int a, .int b] (HP g hj) Q = Q (some (.int (nI (lack τ s a b)))) (HP g hj) := by
  unfold lack
  have w := c.1.1 s hs
  simp (disch := omega) only [e_M_lacks, ↓s_M_lacks_0, ↓s_M_lacks_1, ↓s_M_lacks_4, ↓s_M_lacks_5, ↓s_M_lacks_6, ↓s_M_lacks_9, ↓s_M_lacks_10, nI_leI, nI_ltI, nI_eq, N_z, nI_add, pk_sub, pk_mul, kL_i, kL_r, kL_d, kL_l, kL_k, kL_f, Option.toList_some, Option.toList_none, List.cons_append, List.nil_append, bI_z, N_and, N_or, N_shl, N_shr, Nat.one_mul, Nat.reduceAdd, lg_cmp_eq, L_and, L_or, bI_1, bI_0, if_true, if_false, reduceIte, N_m1x, ite_not, MS_0 c hs]
  by_cases h0 : τ 19 s = 0
  · rw [if_pos h0, if_pos h0]
    simp only [↓s_M_lacks_48]
  · have h1 := (c.2.2 s hs).2 (by omega)
    rw [if_neg h0, if_neg h0]
    simp (disch := omega) only [↓s_M_lacks_13, ↓s_M_lacks_14, ↓s_M_lacks_17, ↓s_M_lacks_18, ↓s_M_lacks_19, ↓s_M_lacks_20, ↓s_M_lacks_23, ↓s_M_lacks_24, ↓s_M_lacks_27, ↓s_M_lacks_28, ↓s_M_lacks_29, ↓s_M_lacks_30, ↓s_M_lacks_33, ↓s_M_lacks_34, ↓s_M_lacks_35, ↓s_M_lacks_36, ↓s_M_lacks_37, ↓s_M_lacks_40, ↓s_M_lacks_43, ↓s_M_lacks_44, ↓s_M_lacks_47, ↓s_M_lacks_48, h1.1, h1.2.1, c_M_in, in_R, Option.toList_some, List.cons_append, List.nil_append, bI_z, ite_not]
    by_cases h2 : nI (τ 20 s) = a
    · rw [if_pos h2, if_pos h2]
      by_cases h3 : inR b (τ 21 s)
      · rw [if_pos h3, if_pos h3]
      · rw [if_neg h3, if_neg h3]
    · rw [if_neg h2, if_neg h2]
/-- an item of a sheet that is there is kept -/
theorem c_Sheets_store {i : Nat} (c : CS τ g) (hs : s < 4) (h0 : τ 19 s ≠ 0) (hi : i < τ 21 s) : cwp X d m_Sheets_store [.ref 47, .int (nI s), .int (nI i), .int a] (HP g hj) Q = Q none (HP (up2 g 48 (s * 48 + i) (kpv τ s a)) hj) := by
  have h1 := c.2.2 s hs
  rw [if_neg h0] at h1
  have w := c.1.1 s hs
  simp (disch := omega) only [e_Sheets_store, ↓s_Sheets_store_0, ↓s_Sheets_store_1, ↓s_Sheets_store_3, ↓s_Sheets_store_4, ↓s_Sheets_store_7, ↓s_Sheets_store_8, ↓s_Sheets_store_9, ↓s_Sheets_store_12, ↓s_Sheets_store_13, ↓s_Sheets_store_14, ↓s_Sheets_store_16, ↓s_Sheets_store_19, ↓s_Sheets_store_20, ↓s_Sheets_store_23, ↓s_Sheets_store_24, ↓s_Sheets_store_25, ↓s_Sheets_store_26, ↓s_Sheets_store_29, ↓s_Sheets_store_30, ↓s_Sheets_store_31, nI_leI, nI_ltI, nI_eq, N_z, nI_add, pk_sub, pk_mul, kL_i, kL_r, kL_d, kL_l, kL_k, kL_f, Option.toList_some, Option.toList_none, List.cons_append, List.nil_append, bI_z, N_and, N_or, N_shl, N_shr, Nat.one_mul, Nat.reduceAdd, lg_cmp_eq, L_and, L_or, bI_1, bI_0, if_true, if_false, reduceIte, N_m1x, ite_not, h1.2.1]
  unfold kpv
  by_cases e1 : τ 20 s = 0
  · rw [if_pos e1, if_pos e1]
    simp (disch := omega) only [↓s_Sheets_store_33, ↓s_Sheets_store_34, ↓s_Sheets_store_37, ↓s_Sheets_store_38, ↓s_Sheets_store_40, ↓s_Sheets_store_41, ↓s_Sheets_store_42, ↓s_Sheets_store_43, ↓s_Sheets_store_45, ↓s_Sheets_store_46, nI_leI, nI_ltI, nI_eq, N_z, nI_add, pk_sub, pk_mul, kL_i, kL_r, kL_d, kL_l, kL_k, kL_f, Option.toList_some, Option.toList_none, List.cons_append, List.nil_append, bI_z, N_and, N_or, N_shl, N_shr, Nat.one_mul, Nat.reduceAdd, lg_cmp_eq, L_and, L_or, bI_1, bI_0, if_true, if_false, reduceIte, N_m1x, ite_not]
  · rw [if_neg e1, if_neg e1]
    by_cases e2 : τ 20 s = 1
    · rw [if_pos e2, if_pos e2]
      simp (disch := omega) only [↓s_Sheets_store_33, ↓s_Sheets_store_34, ↓s_Sheets_store_37, ↓s_Sheets_store_38, ↓s_Sheets_store_40, ↓s_Sheets_store_41, ↓s_Sheets_store_42, ↓s_Sheets_store_43, ↓s_Sheets_store_45, ↓s_Sheets_store_46, nI_leI, nI_ltI, nI_eq, N_z, nI_add, pk_sub, pk_mul, kL_i, kL_r, kL_d, kL_l, kL_k, kL_f, Option.toList_some, Option.toList_none, List.cons_append, List.nil_append, bI_z, N_and, N_or, N_shl, N_shr, Nat.one_mul, Nat.reduceAdd, lg_cmp_eq, L_and, L_or, bI_1, bI_0, if_true, if_false, reduceIte, N_m1x, ite_not]
    · rw [if_neg e2, if_neg e2]
      simp (disch := omega) only [↓s_Sheets_store_33, ↓s_Sheets_store_34, ↓s_Sheets_store_37, ↓s_Sheets_store_38, ↓s_Sheets_store_40, ↓s_Sheets_store_41, ↓s_Sheets_store_42, ↓s_Sheets_store_43, ↓s_Sheets_store_45, ↓s_Sheets_store_46, nI_leI, nI_ltI, nI_eq, N_z, nI_add, pk_sub, pk_mul, kL_i, kL_r, kL_d, kL_l, kL_k, kL_f, Option.toList_some, Option.toList_none, List.cons_append, List.nil_append, bI_z, N_and, N_or, N_shl, N_shr, Nat.one_mul, Nat.reduceAdd, lg_cmp_eq, L_and, L_or, bI_1, bI_0, if_true, if_false, reduceIte, N_m1x, ite_not]
theorem CS_st {i : Nat} (c : CS τ g) (hs : s < 4) (hi : i < τ 21 s) : CS (puT τ s i a) (up2 g 48 (s * 48 + i) (kpv τ s a)) := by
  obtain ⟨w, c1, c2⟩ := c
  have w0 := w.1 s hs
  unfold puT
  refine ⟨⟨?_, ?_, ?_⟩, ?_, ?_⟩
  · simp (disch := omega) only [u2_r]; exact w.1
  · intro x
    by_cases e : x = 48 * s + i
    · subst e
      simp (disch := omega) only [u2_s, u2_n, u2_m]
      exact vN_lt _
    · simp (disch := omega) only [u2_s, u2_n, u2_m]
      exact w.2.1 x
  · simp (disch := omega) only [u2_r]; exact w.2.2
  · simp (disch := omega) only [u2_r]; exact c1
  · intro x hx
    have := c2 x hx
    have wx := w.1 x hx
    simp (disch := omega) only [u2_r]
    split
    · rename_i e; rw [if_pos e] at this; exact this
    · rename_i e
      rw [if_neg e] at this
      refine ⟨this.1, this.2.1, fun y hy => ?_⟩
      by_cases e1 : x * 48 + y = s * 48 + i
      · rw [e1, show 48 * x + y = 48 * s + i by omega, u2_s, u2_s, nI_vN]
      · simp (disch := omega) only [u2_m]
        exact this.2.2 y hy
theorem c_M_keep {i : Nat} (c : MS τ g) (hs : s < 4) (h0 : τ 19 s ≠ 0) (hi : i < τ 21 s) : cwp X d m_M_keep [.ref 51, .int (nI s), .int (nI i), .int a] (HP g hj) Q = Q none (HP (up2 g 84 (48 * s + i) (kpv τ s a)) hj) := by
  have w := c.1.1 s hs
  have h1 := (c.2.2 s hs).2 (by omega)
  simp (disch := omega) only [e_M_keep, ↓s_M_keep_0, ↓s_M_keep_1, ↓s_M_keep_4, ↓s_M_keep_6, ↓s_M_keep_7, ↓s_M_keep_8, ↓s_M_keep_9, ↓s_M_keep_10, ↓s_M_keep_11, ↓s_M_keep_14, ↓s_M_keep_15, ↓s_M_keep_16, ↓s_M_keep_19, ↓s_M_keep_20, ↓s_M_keep_21, ↓s_M_keep_24, ↓s_M_keep_25, ↓s_M_keep_28, ↓s_M_keep_29, ↓s_M_keep_30, ↓s_M_keep_31, ↓s_M_keep_34, ↓s_M_keep_35, ↓s_M_keep_36, ↓s_M_keep_39, ↓s_M_keep_40, ↓s_M_keep_41, nI_leI, nI_ltI, nI_eq, N_z, nI_add, pk_sub, pk_mul, kL_i, kL_r, kL_d, kL_l, kL_k, kL_f, Option.toList_some, Option.toList_none, List.cons_append, List.nil_append, bI_z, N_and, N_or, N_shl, N_shr, Nat.one_mul, Nat.reduceAdd, lg_cmp_eq, L_and, L_or, bI_1, bI_0, if_true, if_false, reduceIte, N_m1x, ite_not, h1.2.1]
  unfold kpv
  by_cases e1 : τ 20 s = 0
  · rw [if_pos e1, if_pos e1]
  · rw [if_neg e1, if_neg e1]
    by_cases e2 : τ 20 s = 1
    · rw [if_pos e2, if_pos e2]
    · rw [if_neg e2, if_neg e2]
theorem MS_st {i : Nat} (c : MS τ g) (hs : s < 4) (hi : i < τ 21 s) : MS (puT τ s i a) (up2 g 84 (48 * s + i) (kpv τ s a)) := by
  obtain ⟨w, c1, c2⟩ := c
  have w0 := w.1 s hs
  unfold puT
  refine ⟨⟨?_, ?_, ?_⟩, ?_, ?_⟩
  · simp (disch := omega) only [u2_r]; exact w.1
  · intro x
    by_cases e : x = 48 * s + i
    · subst e
      simp (disch := omega) only [u2_s, u2_n, u2_m]
      exact vN_lt _
    · simp (disch := omega) only [u2_s, u2_n, u2_m]
      exact w.2.1 x
  · simp (disch := omega) only [u2_r]; exact w.2.2
  · simp (disch := omega) only [u2_r]; exact c1
  · intro x hx
    have := c2 x hx
    have wx := w.1 x hx
    simp (disch := omega) only [u2_r]
    refine ⟨this.1, fun z => ?_⟩
    have this := this.2 z
    refine ⟨this.1, this.2.1, fun y hy => ?_⟩
    by_cases e1 : 48 * x + y = 48 * s + i
    · rw [e1, u2_s, u2_s, nI_vN]
    · simp (disch := omega) only [u2_m]
      exact this.2.2 y hy
theorem lack_0 (h : lack τ s a b = 0) : τ 19 s ≠ 0 ∧ inR b (τ 21 s) := by
  unfold lack at h
  by_cases h0 : τ 19 s = 0
  · rw [if_pos h0] at h; omega
  · rw [if_neg h0] at h
    by_cases h2 : nI (τ 20 s) = a
    · rw [if_pos h2] at h
      by_cases h3 : inR b (τ 21 s)
      · exact ⟨h0, h3⟩
      · rw [if_neg h3] at h; omega
    · rw [if_neg h2] at h; omega
theorem p_C_put (c : CR t n σ τ g hj) (K : KC g hj Q (puS t n σ τ a1 a2 a3 a4)) : cwp X (d + 3) m_C_put [.ref 0, .int a1, .int a2, .int a3, .int a4] (HP g hj) Q := by
  unfold puS at K
  simp only [e_C_put, ↓s_C_put_0, ↓s_C_put_1, ↓s_C_put_4, ↓s_C_put_5, ↓s_C_put_8, ↓s_C_put_11, ↓s_C_put_12, ↓s_C_put_15, ↓s_C_put_16, ↓s_C_put_19, ↓s_C_put_22, ↓s_C_put_24, c_Sheets_isSheet, c_Sheets_isForm, nI_leI, nI_ltI, nI_eq, N_z, nI_add, pk_sub, pk_mul, kL_i, kL_r, kL_d, kL_l, kL_k, kL_f, Option.toList_some, Option.toList_none, List.cons_append, List.nil_append, bI_z, N_and, N_or, N_shl, N_shr, Nat.one_mul, Nat.reduceAdd, lg_cmp_eq, L_and, L_or, bI_1, bI_0, if_true, if_false, reduceIte, N_m1x, ite_not]
  by_cases h1 : inR a1 4
  case neg =>
    rw [if_neg (fun z => h1 z.1)] at K
    rw [if_neg h1]
    exact KC_0 c K
  rw [if_pos h1]
  by_cases h2 : inR a2 3
  case neg =>
    rw [if_neg (fun z => h2 z.2)] at K
    rw [if_neg h2]
    exact KC_0 c K
  rw [if_pos h2]
  rw [if_pos ⟨h1, h2⟩] at K
  obtain ⟨s, hs, rfl⟩ := inR_n h1 (by omega)
  rw [nn_n (by omega)] at K
  have c5 := c.2.2.2.2
  have l3 := lack_le τ s a2 a3
  simp (disch := omega) only [↓s_C_put_25, ↓s_C_put_26, ↓s_C_put_29, ↓s_C_put_30, ↓s_C_put_31, ↓s_C_put_32, ↓s_C_put_35, ↓s_C_put_37, ↓s_C_put_39, ↓s_C_put_42, ↓s_C_put_43, ↓s_C_put_46, ↓s_C_put_48, ↓s_C_put_51, c_Sheets_findingAt c5 hs, c_Sheets_find, nI_leI, nI_ltI, nI_eq, N_z, nI_add, pk_sub, pk_mul, kL_i, kL_r, kL_d, kL_l, kL_k, kL_f, Option.toList_some, Option.toList_none, List.cons_append, List.nil_append, bI_z, N_and, N_or, N_shl, N_shr, Nat.one_mul, Nat.reduceAdd, lg_cmp_eq, L_and, L_or, bI_1, bI_0, if_true, if_false, reduceIte, N_m1x, ite_not]
  by_cases h3 : lack τ s a2 a3 = 0
  · rw [if_pos h3] at K ⊢
    obtain ⟨x1, x2⟩ := lack_0 h3
    have w0 := (c5.1.1 s hs).2.2
    obtain ⟨i, hi, rfl⟩ := inR_n x2 (by omega)
    rw [nn_n (by omega)] at K
    simp (disch := omega) only [↓s_C_put_52, ↓s_C_put_53, ↓s_C_put_56, ↓s_C_put_57, ↓s_C_put_58, ↓s_C_put_60, ↓s_C_put_63, ↓s_C_put_64, c_Sheets_store c5 hs x1, nI_leI, nI_ltI, nI_eq, N_z, nI_add, pk_sub, pk_mul, kL_i, kL_r, kL_d, kL_l, kL_k, kL_f, Option.toList_some, Option.toList_none, List.cons_append, List.nil_append, bI_z, N_and, N_or, N_shl, N_shr, Nat.one_mul, Nat.reduceAdd, lg_cmp_eq, L_and, L_or, bI_1, bI_0, if_true, if_false, reduceIte, N_m1x, ite_not]
    exact K _ _ (CR_sh c (CS_st c5 hs hi) (fun k h1 => by simp (disch := omega) only [u2_r])) (fun k h1 => by simp (disch := omega) only [u2_r]) (fun _ _ => rfl)
  · rw [if_neg h3] at K ⊢
    exact K _ _ (CR_fn c (by omega)) (fun k h1 => by simp (disch := omega) only [u2_r]) (fun _ _ => rfl)
theorem p_M_put (c : MR t n σ τ g hj) (K : KM g hj Q (puS t n σ τ a1 a2 a3 a4)) : cwp X (d + 3) m_M_put [.ref 51, .int a1, .int a2, .int a3, .int a4] (HP g hj) Q := by
  unfold puS at K
  simp (disch := omega) only [e_M_put, ↓s_M_put_0, ↓s_M_put_1, ↓s_M_put_4, ↓s_M_put_7, ↓s_M_put_8, ↓s_M_put_9, ↓s_M_put_10, ↓s_M_put_13, ↓s_M_put_16, ↓s_M_put_18, c_M_isSheet, c_M_in, in_c, nI_leI, nI_ltI, nI_eq, N_z, nI_add, pk_sub, pk_mul, kL_i, kL_r, kL_d, kL_l, kL_k, kL_f, Option.toList_some, Option.toList_none, List.cons_append, List.nil_append, bI_z, N_and, N_or, N_shl, N_shr, Nat.one_mul, Nat.reduceAdd, lg_cmp_eq, L_and, L_or, bI_1, bI_0, if_true, if_false, reduceIte, N_m1x, ite_not]
  by_cases h1 : inR a1 4
  case neg =>
    rw [if_neg (fun z => h1 z.1)] at K
    rw [if_neg h1]
    exact KM_0 c K
  rw [if_pos h1]
  by_cases h2 : inR a2 3
  case neg =>
    rw [if_neg (fun z => h2 z.2)] at K
    rw [if_neg h2]
    exact KM_0 c K
  rw [if_pos h2]
  rw [if_pos ⟨h1, h2⟩] at K
  obtain ⟨s, hs, rfl⟩ := inR_n h1 (by omega)
  rw [nn_n (by omega)] at K
  have c5 := c.2.2.2
  have l3 := lack_le τ s a2 a3
  have z0 : (nI (lack τ s a2 a3) ≤ 0) = (lack τ s a2 a3 = 0) := by
    rw [show (0 : Int32) = nI 0 from rfl]
    apply propext
    rw [nI_leI (by omega) (by omega)]
    omega
  simp (disch := omega) only [↓s_M_put_19, ↓s_M_put_20, ↓s_M_put_21, ↓s_M_put_22, ↓s_M_put_23, ↓s_M_put_26, ↓s_M_put_28, ↓s_M_put_30, ↓s_M_put_33, ↓s_M_put_34, ↓s_M_put_36, ↓s_M_put_39, c_M_lacks c5 hs, c_M_meets, nI_leI, nI_ltI, nI_eq, N_z, nI_add, pk_sub, pk_mul, kL_i, kL_r, kL_d, kL_l, kL_k, kL_f, Option.toList_some, Option.toList_none, List.cons_append, List.nil_append, bI_z, N_and, N_or, N_shl, N_shr, Nat.one_mul, Nat.reduceAdd, lg_cmp_eq, L_and, L_or, bI_1, bI_0, if_true, if_false, reduceIte, N_m1x, ite_not, z0]
  by_cases h3 : lack τ s a2 a3 = 0
  · rw [if_pos h3] at K ⊢
    obtain ⟨x1, x2⟩ := lack_0 h3
    have w0 := (c5.1.1 s hs).2.2
    obtain ⟨i, hi, rfl⟩ := inR_n x2 (by omega)
    rw [nn_n (by omega)] at K
    simp (disch := omega) only [↓s_M_put_40, ↓s_M_put_41, ↓s_M_put_42, ↓s_M_put_43, ↓s_M_put_45, ↓s_M_put_48, ↓s_M_put_49, c_M_keep c5 hs x1, nI_leI, nI_ltI, nI_eq, N_z, nI_add, pk_sub, pk_mul, kL_i, kL_r, kL_d, kL_l, kL_k, kL_f, Option.toList_some, Option.toList_none, List.cons_append, List.nil_append, bI_z, N_and, N_or, N_shl, N_shr, Nat.one_mul, Nat.reduceAdd, lg_cmp_eq, L_and, L_or, bI_1, bI_0, if_true, if_false, reduceIte, N_m1x, ite_not]
    exact K _ _ (MR_sh c (MS_st c5 hs hi) (fun k hk => by simp (disch := omega) only [u2_s, u2_n, u2_m]) (fun k h1 h2 => by simp (disch := omega) only [u2_r])) (fun k h1 => by simp (disch := omega) only [u2_r]) (fun _ _ => rfl)
  · rw [if_neg h3] at K ⊢
    exact K _ _ (MR_fn c (by omega)) (fun k h1 => by simp (disch := omega) only [u2_r]) (fun _ _ => rfl)
theorem c_Sheets_item {i : Nat} (c : CS τ g) (hs : s < 4) (h0 : τ 19 s ≠ 0) (hi : i < τ 21 s) : cwp X d m_Sheets_item [.ref 47, .int (nI s), .int (nI i)] (HP g hj) Q = Q (some (.int (nI (τ 22 (48 * s + i))))) (HP g hj) := by
  have h1 := c.2.2 s hs
  rw [if_neg h0] at h1
  have w := c.1.1 s hs
  have e := h1.2.2 i hi
  simp (disch := omega) only [e_Sheets_item, ↓s_Sheets_item_0, ↓s_Sheets_item_1, ↓s_Sheets_item_4, ↓s_Sheets_item_5, ↓s_Sheets_item_7, ↓s_Sheets_item_8, ↓s_Sheets_item_9, ↓s_Sheets_item_10, ↓s_Sheets_item_11, nI_leI, nI_ltI, nI_eq, N_z, nI_add, pk_sub, pk_mul, kL_i, kL_r, kL_d, kL_l, kL_k, kL_f, Option.toList_some, Option.toList_none, List.cons_append, List.nil_append, bI_z, N_and, N_or, N_shl, N_shr, Nat.one_mul, Nat.reduceAdd, lg_cmp_eq, L_and, L_or, bI_1, bI_0, if_true, if_false, reduceIte, N_m1x, ite_not, e]
theorem p_C_get (c : CR t n σ τ g hj) (K : KC g hj Q (geS t n σ τ a1 a2 a3)) : cwp X (d + 3) m_C_get [.ref 0, .int a1, .int a2, .int a3] (HP g hj) Q := by
  unfold geS at K
  simp only [e_C_get, ↓s_C_get_0, ↓s_C_get_1, ↓s_C_get_4, ↓s_C_get_5, ↓s_C_get_8, ↓s_C_get_11, ↓s_C_get_12, ↓s_C_get_15, ↓s_C_get_16, ↓s_C_get_19, ↓s_C_get_22, ↓s_C_get_25, c_Sheets_isSheet, c_Sheets_isForm, nI_leI, nI_ltI, nI_eq, N_z, nI_add, pk_sub, pk_mul, kL_i, kL_r, kL_d, kL_l, kL_k, kL_f, Option.toList_some, Option.toList_none, List.cons_append, List.nil_append, bI_z, N_and, N_or, N_shl, N_shr, Nat.one_mul, Nat.reduceAdd, lg_cmp_eq, L_and, L_or, bI_1, bI_0, if_true, if_false, reduceIte, N_m1x, ite_not]
  by_cases h1 : inR a1 4
  case neg =>
    rw [if_neg (fun z => h1 z.1)] at K
    rw [if_neg h1]
    exact KC_0 c K
  rw [if_pos h1]
  by_cases h2 : inR a2 3
  case neg =>
    rw [if_neg (fun z => h2 z.2)] at K
    rw [if_neg h2]
    exact KC_0 c K
  rw [if_pos h2]
  rw [if_pos ⟨h1, h2⟩] at K
  obtain ⟨s, hs, rfl⟩ := inR_n h1 (by omega)
  rw [nn_n (by omega)] at K
  have c5 := c.2.2.2.2
  have l3 := lack_le τ s a2 a3
  simp (disch := omega) only [↓s_C_get_26, ↓s_C_get_27, ↓s_C_get_30, ↓s_C_get_31, ↓s_C_get_32, ↓s_C_get_33, ↓s_C_get_36, ↓s_C_get_38, ↓s_C_get_40, ↓s_C_get_43, ↓s_C_get_44, ↓s_C_get_47, ↓s_C_get_49, ↓s_C_get_52, ↓s_C_get_53, ↓s_C_get_56, c_Sheets_findingAt c5 hs, c_Sheets_find, nI_leI, nI_ltI, nI_eq, N_z, nI_add, pk_sub, pk_mul, kL_i, kL_r, kL_d, kL_l, kL_k, kL_f, Option.toList_some, Option.toList_none, List.cons_append, List.nil_append, bI_z, N_and, N_or, N_shl, N_shr, Nat.one_mul, Nat.reduceAdd, lg_cmp_eq, L_and, L_or, bI_1, bI_0, if_true, if_false, reduceIte, N_m1x, ite_not]
  by_cases h3 : lack τ s a2 a3 = 0
  · rw [if_pos h3] at K ⊢
    obtain ⟨x1, x2⟩ := lack_0 h3
    have w0 := (c5.1.1 s hs).2.2
    obtain ⟨i, hi, rfl⟩ := inR_n x2 (by omega)
    rw [nn_n (by omega)] at K
    simp (disch := omega) only [↓s_C_get_57, ↓s_C_get_58, ↓s_C_get_61, ↓s_C_get_62, ↓s_C_get_63, ↓s_C_get_66, c_Sheets_item c5 hs x1, nI_leI, nI_ltI, nI_eq, N_z, nI_add, pk_sub, pk_mul, kL_i, kL_r, kL_d, kL_l, kL_k, kL_f, Option.toList_some, Option.toList_none, List.cons_append, List.nil_append, bI_z, N_and, N_or, N_shl, N_shr, Nat.one_mul, Nat.reduceAdd, lg_cmp_eq, L_and, L_or, bI_1, bI_0, if_true, if_false, reduceIte, N_m1x, ite_not]
    exact KC_0 c K
  · rw [if_neg h3] at K ⊢
    exact K _ _ (CR_fn c (by omega)) (fun k h1 => by simp (disch := omega) only [u2_r]) (fun _ _ => rfl)
theorem p_M_get (c : MR t n σ τ g hj) (K : KM g hj Q (geS t n σ τ a1 a2 a3)) : cwp X (d + 3) m_M_get [.ref 51, .int a1, .int a2, .int a3] (HP g hj) Q := by
  unfold geS at K
  simp (disch := omega) only [e_M_get, ↓s_M_get_0, ↓s_M_get_1, ↓s_M_get_4, ↓s_M_get_7, ↓s_M_get_8, ↓s_M_get_9, ↓s_M_get_10, ↓s_M_get_13, ↓s_M_get_16, ↓s_M_get_19, c_M_isSheet, c_M_in, in_c, nI_leI, nI_ltI, nI_eq, N_z, nI_add, pk_sub, pk_mul, kL_i, kL_r, kL_d, kL_l, kL_k, kL_f, Option.toList_some, Option.toList_none, List.cons_append, List.nil_append, bI_z, N_and, N_or, N_shl, N_shr, Nat.one_mul, Nat.reduceAdd, lg_cmp_eq, L_and, L_or, bI_1, bI_0, if_true, if_false, reduceIte, N_m1x, ite_not]
  by_cases h1 : inR a1 4
  case neg =>
    rw [if_neg (fun z => h1 z.1)] at K
    rw [if_neg h1]
    exact KM_0 c K
  rw [if_pos h1]
  by_cases h2 : inR a2 3
  case neg =>
    rw [if_neg (fun z => h2 z.2)] at K
    rw [if_neg h2]
    exact KM_0 c K
  rw [if_pos h2]
  rw [if_pos ⟨h1, h2⟩] at K
  obtain ⟨s, hs, rfl⟩ := inR_n h1 (by omega)
  rw [nn_n (by omega)] at K
  have c5 := c.2.2.2
  have l3 := lack_le τ s a2 a3
  have z0 : (nI (lack τ s a2 a3) ≤ 0) = (lack τ s a2 a3 = 0) := by
    rw [show (0 : Int32) = nI 0 from rfl]
    apply propext
    rw [nI_leI (by omega) (by omega)]
    omega
  simp (disch := omega) only [↓s_M_get_20, ↓s_M_get_21, ↓s_M_get_22, ↓s_M_get_23, ↓s_M_get_24, ↓s_M_get_27, ↓s_M_get_29, ↓s_M_get_31, ↓s_M_get_34, ↓s_M_get_35, ↓s_M_get_37, ↓s_M_get_40, ↓s_M_get_43, c_M_lacks c5 hs, nI_leI, nI_ltI, nI_eq, N_z, nI_add, pk_sub, pk_mul, kL_i, kL_r, kL_d, kL_l, kL_k, kL_f, Option.toList_some, Option.toList_none, List.cons_append, List.nil_append, bI_z, N_and, N_or, N_shl, N_shr, Nat.one_mul, Nat.reduceAdd, lg_cmp_eq, L_and, L_or, bI_1, bI_0, if_true, if_false, reduceIte, N_m1x, ite_not, z0]
  by_cases h3 : lack τ s a2 a3 = 0
  · rw [if_pos h3] at K ⊢
    obtain ⟨x1, x2⟩ := lack_0 h3
    have w0 := c5.1.1 s hs
    obtain ⟨i, hi, rfl⟩ := inR_n x2 (by omega)
    rw [nn_n (by omega)] at K
    have h1 := ((c5.2.2 s hs).2 (by omega)).2.2 i hi
    simp (disch := omega) only [↓s_M_get_44, ↓s_M_get_45, ↓s_M_get_48, ↓s_M_get_50, ↓s_M_get_51, ↓s_M_get_52, ↓s_M_get_53, ↓s_M_get_54, ↓s_M_get_55, h1, nI_leI, nI_ltI, nI_eq, N_z, nI_add, pk_sub, pk_mul, kL_i, kL_r, kL_d, kL_l, kL_k, kL_f, Option.toList_some, Option.toList_none, List.cons_append, List.nil_append, bI_z, N_and, N_or, N_shl, N_shr, Nat.one_mul, Nat.reduceAdd, lg_cmp_eq, L_and, L_or, bI_1, bI_0, if_true, if_false, reduceIte, N_m1x, ite_not]
    exact KM_0 c K
  · rw [if_neg h3] at K ⊢
    exact K _ _ (MR_fn c (by omega)) (fun k h1 => by simp (disch := omega) only [u2_r]) (fun _ _ => rfl)
end SHEETS
