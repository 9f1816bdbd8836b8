/-! the model's copy; read -/
section RD
variable {X : AX} {d : Nat} {Q : Option Value → AH → Prop} {g g2 : Nat → Nat → Int32} {hj hj2 : Nat → Nat → Int64} {σ τ τ2 : ST} {a b a1 a2 a3 a4 a5 : Int32} {t : Nat → Nat} {n : Nat} {h : AH} {s : Nat}
theorem l_M_copy1 {s i u j m : Nat} (hs : s < 4) (hu : u < 4) (hi : i + m ≤ 48) (hj0 : j + m ≤ 48) : ∀ (r k : Nat) (g2 : Nat → Nat → Int32), k + r = m → (∀ x, x ≠ 85 → g2 x = g x) → (∀ x, x < k → g2 85 x = g 84 (48 * s + i + x)) →
    (∀ g3, (∀ x, x ≠ 85 → g3 x = g x) → (∀ x, x < m → g3 85 x = g 84 (48 * s + i + x)) → wp X d m_M_copy 154 [.ref 51, .int (nI s), .int (nI i), .int (nI u), .int (nI j), .int (nI m), .int (nI m)] [] (HP g3 hj) Q) →
    wp X d m_M_copy 120 [.ref 51, .int (nI s), .int (nI i), .int (nI u), .int (nI j), .int (nI m), .int (nI k)] [] (HP g2 hj) Q
  | 0, k, g2, hk, e1, e2, K => by
    have : k = m := by omega
    subst this
    rw [s_M_copy_120]
    simp (disch := omega) only [↓s_M_copy_122, ↓s_M_copy_124, nI_leI, nI_ltI, nI_eq, N_z, nI_add, pk_sub, pk_mul, kL_i, kL_r, kL_d, kL_l, kL_k, kL_f, Option.toList_some, Option.toList_none, List.cons_append, List.nil_append, bI_z, N_and, N_or, N_shl, N_shr, Nat.one_mul, Nat.reduceAdd, lg_cmp_eq, L_and, L_or, bI_1, bI_0, if_true, if_false, reduceIte, N_m1x, ite_not, Nat.le_refl]
    exact K g2 e1 e2
  | r + 1, k, g2, hk, e1, e2, K => by
    rw [s_M_copy_120]
    simp (disch := omega) only [↓s_M_copy_122, ↓s_M_copy_124, ↓s_M_copy_127, ↓s_M_copy_128, ↓s_M_copy_131, ↓s_M_copy_133, ↓s_M_copy_134, ↓s_M_copy_137, ↓s_M_copy_139, ↓s_M_copy_140, ↓s_M_copy_141, ↓s_M_copy_142, ↓s_M_copy_143, ↓s_M_copy_145, ↓s_M_copy_146, ↓s_M_copy_147, ↓s_M_copy_148, ↓s_M_copy_151, nI_leI, nI_ltI, nI_eq, N_z, nI_add, pk_sub, pk_mul, kL_i, kL_r, kL_d, kL_l, kL_k, kL_f, Option.toList_some, Option.toList_none, List.cons_append, List.nil_append, bI_z, N_and, N_or, N_shl, N_shr, Nat.one_mul, Nat.reduceAdd, lg_cmp_eq, L_and, L_or, bI_1, bI_0, if_true, if_false, reduceIte, N_m1x, ite_not]
    rw [if_neg (by omega)]
    refine l_M_copy1 hs hu hi hj0 r (k + 1) _ (by omega) (fun x hx => ?_) (fun x hx => ?_) K
    · simp (disch := omega) only [u2_r]; exact e1 x hx
    · by_cases e : x = k
      · subst e
        simp (disch := omega) only [u2_s, u2_n, u2_m]
        rw [e1 84 (by omega)]
      · simp (disch := omega) only [u2_s, u2_n, u2_m]
        exact e2 x (by omega)
theorem l_M_copy2 {s i u j m : Nat} {f : Nat → Int32} (hs : s < 4) (hu : u < 4) (hi : i + m ≤ 48) (hj0 : j + m ≤ 48) (ef : ∀ x, x < m → g 85 x = f x) : ∀ (r k : Nat) (g2 : Nat → Nat → Int32), k + r = m → (∀ x, x ≠ 84 → g2 x = g x) → (∀ x, g2 84 x = if 48 * u + j ≤ x ∧ x < 48 * u + j + k then f (x - (48 * u + j)) else g 84 x) →
    (∀ g3, (∀ x, x ≠ 84 → g3 x = g x) → (∀ x, g3 84 x = if 48 * u + j ≤ x ∧ x < 48 * u + j + m then f (x - (48 * u + j)) else g 84 x) → Q (some (.int (nI 1))) (HP g3 hj)) →
    wp X d m_M_copy 157 [.ref 51, .int (nI s), .int (nI i), .int (nI u), .int (nI j), .int (nI m), .int (nI k)] [] (HP g2 hj) Q
  | 0, k, g2, hk, e1, e2, K => by
    have : k = m := by omega
    subst this
    rw [s_M_copy_157]
    simp (disch := omega) only [↓s_M_copy_159, ↓s_M_copy_161, ↓s_M_copy_192, ↓s_M_copy_193, nI_leI, nI_ltI, nI_eq, N_z, nI_add, pk_sub, pk_mul, kL_i, kL_r, kL_d, kL_l, kL_k, kL_f, Option.toList_some, Option.toList_none, List.cons_append, List.nil_append, bI_z, N_and, N_or, N_shl, N_shr, Nat.one_mul, Nat.reduceAdd, lg_cmp_eq, L_and, L_or, bI_1, bI_0, if_true, if_false, reduceIte, N_m1x, ite_not, Nat.le_refl]
    exact K g2 e1 e2
  | r + 1, k, g2, hk, e1, e2, K => by
    have e3 : g2 85 k = f k := by rw [e1 85 (by omega)]; exact ef k (by omega)
    rw [s_M_copy_157]
    simp (disch := omega) only [↓s_M_copy_159, ↓s_M_copy_161, ↓s_M_copy_164, ↓s_M_copy_165, ↓s_M_copy_168, ↓s_M_copy_170, ↓s_M_copy_171, ↓s_M_copy_172, ↓s_M_copy_174, ↓s_M_copy_175, ↓s_M_copy_177, ↓s_M_copy_178, ↓s_M_copy_179, ↓s_M_copy_182, ↓s_M_copy_184, ↓s_M_copy_185, ↓s_M_copy_186, ↓s_M_copy_189, nI_leI, nI_ltI, nI_eq, N_z, nI_add, pk_sub, pk_mul, kL_i, kL_r, kL_d, kL_l, kL_k, kL_f, Option.toList_some, Option.toList_none, List.cons_append, List.nil_append, bI_z, N_and, N_or, N_shl, N_shr, Nat.one_mul, Nat.reduceAdd, lg_cmp_eq, L_and, L_or, bI_1, bI_0, if_true, if_false, reduceIte, N_m1x, ite_not, e3]
    rw [if_neg (by omega)]
    refine l_M_copy2 hs hu hi hj0 ef r (k + 1) _ (by omega) (fun x hx => ?_) (fun x => ?_) K
    · simp (disch := omega) only [u2_r]; exact e1 x hx
    · by_cases e : x = 48 * u + j + k
      · subst e
        rw [u2_s, if_pos (by omega)]
        congr 1
        omega
      · rw [u2_m _ _ _ _ e, e2 x]
        by_cases h1 : 48 * u + j ≤ x ∧ x < 48 * u + j + k
        · rw [if_pos h1, if_pos (by omega)]
        · rw [if_neg h1, if_neg (by omega)]
theorem p_M_copy (c : MR t n σ τ g hj) (K : KM g hj Q (cpS t n σ τ a1 a2 a3 a4 a5)) : cwp X (d + 3) m_M_copy [.ref 51, .int a1, .int a2, .int a3, .int a4, .int a5] (HP g hj) Q := by
  unfold cpS at K
  simp only [e_M_copy, ↓s_M_copy_0, ↓s_M_copy_1, ↓s_M_copy_4, ↓s_M_copy_7, ↓s_M_copy_8, ↓s_M_copy_11, ↓s_M_copy_14, ↓s_M_copy_16, c_M_isSheet, nI_leI, nI_ltI, nI_eq, N_z, nI_add, pk_sub, pk_mul, kL_i, kL_r, kL_d, kL_l, kL_k, kL_f, Option.toList_some, Option.toList_none, List.cons_append, List.nil_append, bI_z, N_and, N_or, N_shl, N_shr, Nat.one_mul, Nat.reduceAdd, lg_cmp_eq, L_and, L_or, bI_1, bI_0, if_true, if_false, reduceIte, N_m1x, ite_not]
  by_cases h1 : inR a1 4
  case neg =>
    rw [if_neg (fun z => h1 z.1)] at K
    rw [if_neg h1]
    exact KM_0 c K
  rw [if_pos h1]
  by_cases h2 : inR a3 4
  case neg =>
    rw [if_neg (fun z => h2 z.2)] at K
    rw [if_neg h2]
    exact KM_0 c K
  rw [if_pos h2]
  rw [if_pos ⟨h1, h2⟩] at K
  obtain ⟨s, hs, rfl⟩ := inR_n h1 (by omega)
  obtain ⟨u, hu, rfl⟩ := inR_n h2 (by omega)
  rw [nn_n (show s < 2147483648 by omega), nn_n (show u < 2147483648 by omega)] at K
  have c5 := c.2.2.2
  obtain ⟨w, c1, c2⟩ := id c5
  have ws := w.1 s hs
  have wu := w.1 u hu
  simp (disch := omega) only [↓s_M_copy_17, ↓s_M_copy_18, ↓s_M_copy_21, ↓s_M_copy_22, ↓s_M_copy_23, ↓s_M_copy_26, ↓s_M_copy_27, ↓s_M_copy_30, ↓s_M_copy_31, ↓s_M_copy_32, ↓s_M_copy_35, ↓s_M_copy_36, ↓s_M_copy_37, ↓s_M_copy_40, MS_0 c5 hs, MS_0 c5 hu, c_M_meets, nI_leI, nI_ltI, nI_eq, N_z, nI_add, pk_sub, pk_mul, kL_i, kL_r, kL_d, kL_l, kL_k, kL_f, Option.toList_some, Option.toList_none, List.cons_append, List.nil_append, bI_z, N_and, N_or, N_shl, N_shr, Nat.one_mul, Nat.reduceAdd, lg_cmp_eq, L_and, L_or, bI_1, bI_0, if_true, if_false, reduceIte, N_m1x, ite_not]
  by_cases h3 : τ 19 s = 0
  · rw [if_pos (Or.inl h3)] at K
    rw [if_pos h3]
    exact K _ _ (MR_fn c (by omega)) (fun k h1 => by simp (disch := omega) only [u2_r]) (fun _ _ => rfl)
  rw [if_neg h3]
  by_cases h4 : τ 19 u = 0
  · rw [if_pos (Or.inr h4)] at K
    rw [if_pos h4]
    exact K _ _ (MR_fn c (by omega)) (fun k h1 => by simp (disch := omega) only [u2_r]) (fun _ _ => rfl)
  rw [if_neg h4]
  rw [if_neg (by rintro (z | z); exact h3 z; exact h4 z)] at K
  have es := (c2 s hs).2 (by omega)
  have eu := (c2 u hu).2 (by omega)
  simp (disch := omega) only [↓s_M_copy_41, ↓s_M_copy_42, ↓s_M_copy_45, ↓s_M_copy_46, ↓s_M_copy_47, ↓s_M_copy_48, ↓s_M_copy_51, ↓s_M_copy_52, ↓s_M_copy_53, ↓s_M_copy_56, ↓s_M_copy_57, ↓s_M_copy_58, ↓s_M_copy_61, es.2.1, eu.2.1, c_M_meets, nI_leI, nI_ltI, nI_eq, N_z, nI_add, pk_sub, pk_mul, kL_i, kL_r, kL_d, kL_l, kL_k, kL_f, Option.toList_some, Option.toList_none, List.cons_append, List.nil_append, bI_z, N_and, N_or, N_shl, N_shr, Nat.one_mul, Nat.reduceAdd, lg_cmp_eq, L_and, L_or, bI_1, bI_0, if_true, if_false, reduceIte, N_m1x, ite_not]
  by_cases h5 : τ 20 s = τ 20 u
  case neg =>
    rw [if_neg h5] at K ⊢
    exact K _ _ (MR_fn c (by omega)) (fun k h1 => by simp (disch := omega) only [u2_r]) (fun _ _ => rfl)
  rw [if_pos h5] at K ⊢
  have BADK : ¬ (hit τ s a2 a5 = true ∧ hit τ u a4 a5 = true) → wp X (d + 3) m_M_copy 111 [.ref 51, .int (nI s), .int a2, .int (nI u), .int a4, .int a5, DUM] [] (HP g hj) Q := by
    intro hh
    rw [if_neg hh] at K
    simp (disch := omega) only [↓s_M_copy_111, ↓s_M_copy_112, ↓s_M_copy_113, ↓s_M_copy_116, c_M_meets, nI_leI, nI_ltI, nI_eq, N_z, nI_add, pk_sub, pk_mul, kL_i, kL_r, kL_d, kL_l, kL_k, kL_f, Option.toList_some, Option.toList_none, List.cons_append, List.nil_append, bI_z, N_and, N_or, N_shl, N_shr, Nat.one_mul, Nat.reduceAdd, lg_cmp_eq, L_and, L_or, bI_1, bI_0, if_true, if_false, reduceIte, N_m1x, ite_not]
    exact K _ _ (MR_fn c (by omega)) (fun k h1 => by simp (disch := omega) only [u2_r]) (fun _ _ => rfl)
  simp (disch := omega) only [↓s_M_copy_62, ↓s_M_copy_63, ↓s_M_copy_66, ↓s_M_copy_68, ↓s_M_copy_71, ↓s_M_copy_73, nI_leI, nI_ltI, nI_eq, N_z, nI_add, pk_sub, pk_mul, kL_i, kL_r, kL_d, kL_l, kL_k, kL_f, Option.toList_some, Option.toList_none, List.cons_append, List.nil_append, bI_z, N_and, N_or, N_shl, N_shr, Nat.one_mul, Nat.reduceAdd, lg_cmp_eq, L_and, L_or, bI_1, bI_0, if_true, if_false, reduceIte, N_m1x, ite_not]
  by_cases h6 : a2 < 0
  · rw [if_pos h6]
    exact BADK (fun z => by rw [hit_n (Or.inl (Int32.not_le.mpr h6))] at z; exact absurd z.1 (by decide))
  rw [if_neg h6]
  by_cases h7 : a4 < 0
  · rw [if_pos h7]
    exact BADK (fun z => by rw [hit_n (a := a4) (Or.inl (Int32.not_le.mpr h7))] at z; exact absurd z.2 (by decide))
  rw [if_neg h7]
  by_cases h8 : a5 < 0
  · rw [if_pos h8]
    exact BADK (fun z => by rw [hit_n (a := a2) (Or.inr (Int32.not_le.mpr h8))] at z; exact absurd z.1 (by decide))
  rw [if_neg h8]
  obtain ⟨i, hi, rfl⟩ := p0 (Int32.not_lt.mp h6)
  obtain ⟨m, hm, rfl⟩ := p0 (Int32.not_lt.mp h8)
  obtain ⟨j, hj0, rfl⟩ := p0 (Int32.not_lt.mp h7)
  simp only [hit_k hi hm, hit_k hj0 hm] at K BADK
  simp (disch := omega) only [nn_n] at K
  simp (disch := omega) only [↓s_M_copy_76, ↓s_M_copy_77, ↓s_M_copy_78, ↓s_M_copy_80, ↓s_M_copy_81, ↓s_M_copy_82, ↓s_M_copy_83, ↓s_M_copy_86, ↓s_M_copy_87, ↓s_M_copy_88, ↓s_M_copy_89, ↓s_M_copy_90, ↓s_M_copy_93, ↓s_M_copy_95, ↓s_M_copy_96, ↓s_M_copy_98, ↓s_M_copy_99, ↓s_M_copy_100, ↓s_M_copy_101, ↓s_M_copy_104, ↓s_M_copy_105, ↓s_M_copy_106, ↓s_M_copy_107, ↓s_M_copy_108, es.1, eu.1, nI_l, lN_add, lg_cmp_gt, lg_cmp_le, pk_lLT, pk_lLE]
  by_cases h9 : τ 21 s < i + m
  · rw [if_pos h9]
    exact BADK (by omega)
  rw [if_neg h9]
  by_cases h10 : j + m ≤ τ 21 u
  case neg =>
    rw [if_neg h10]
    exact BADK (by omega)
  rw [if_pos h10]
  rw [if_pos ⟨by omega, h10⟩] at K
  simp only [↓s_M_copy_117, ↓s_M_copy_118, kL_i]
  refine l_M_copy1 (g := g) hs hu (by omega) (by omega) m 0 _ (by omega) (fun _ _ => rfl) (fun x hx => by omega) (fun g3 x1 x2 => ?_)
  simp only [↓s_M_copy_154, ↓s_M_copy_155, kL_i]
  refine l_M_copy2 (g := g3) (f := fun x => g 84 (48 * s + i + x)) hs hu (by omega) (by omega) x2 m 0 _ (by omega) (fun _ _ => rfl) (fun x => by rw [if_neg (by omega)]) (fun g4 x3 x4 => ?_)
  have x5 : ∀ k, k ≠ 84 → k ≠ 85 → g4 k = g k := fun k k1 k2 => by rw [x3 k k1, x1 k k2]
  refine K _ _ (MR_sh c ⟨WT_cp w, ?_, fun x hx => ?_⟩ ?_ ?_) ?_ (fun _ _ => rfl)
  · rw [x5 51 (by omega) (by omega)]
    unfold cpT; simp (disch := omega) only [upr_n]; exact c1
  · rw [x5 81 (by omega) (by omega), x5 82 (by omega) (by omega), x5 83 (by omega) (by omega)]
    unfold cpT
    simp (disch := omega) only [upr_n, upr_s]
    have := c2 x hx
    have wx := (w.1 x hx).2.2
    refine ⟨this.1, fun z => ?_⟩
    have this := this.2 z
    refine ⟨this.1, this.2.1, fun k hk => ?_⟩
    rw [x4, x1 84 (by omega)]
    unfold va_cpy
    by_cases e1 : 48 * u + j ≤ 48 * x + k ∧ 48 * x + k < 48 * u + j + m
    · rw [if_pos e1, if_pos e1]
      have e2 := es.2.2 (i + (48 * x + k - (48 * u + j))) (by omega)
      rw [← Nat.add_assoc] at e2
      exact e2
    · rw [if_neg e1, if_neg e1]
      exact this.2.2 k hk
  · intro k hk; rw [x5 51 (by omega) (by omega)]
  · intro k hk hk2; rw [x5 k (by omega) (by omega)]
  · intro k hk; rw [x5 k (by omega) (by omega)]
/-- read: one by one -/
def rdI (τ : ST) (s k : Nat) : Int32 := nI (τ 22 (48 * s + k))
def heR (t : Nat → Nat) (n : Nat) (σ τ : ST) (s k : Nat) : SS := heS t n σ τ (rdI τ s (4 * k)) (rdI τ s (4 * k + 1)) (rdI τ s (4 * k + 2)) (rdI τ s (4 * k + 3))
def rdW (t : Nat → Nat) (n : Nat) (τ : ST) (s : Nat) : Nat → Nat → ST → SS
  | 0, k, σ => (t, n, σ, τ, nI k)
  | m + 1, k, σ => if 0 ≤ (heR t n σ τ s k).2.2.2.2 then rdW t n τ s m (k + 1) (heR t n σ τ s k).2.2.1 else (t, n, (heR t n σ τ s k).2.2.1, τ, nI k)
def rdS (t : Nat → Nat) (n : Nat) (σ τ : ST) (a : Int32) : SS := if inR a 4 then (if τ 19 (nn a) = 0 then (t, n, σ, fnT τ 1, fnA 1) else rdW t n τ (nn a) (τ 21 (nn a) / 4) 0 σ) else (t, n, σ, τ, -2)
theorem heS_p : (heS t n σ τ a1 a2 a3 a4) = (t, n, (heS t n σ τ a1 a2 a3 a4).2.2.1, τ, (heS t n σ τ a1 a2 a3 a4).2.2.2.2) := by
  unfold heS
  repeat' split
  all_goals rfl
theorem l_C_read {g0 : Nat → Nat → Int32} {hj0 : Nat → Nat → Int64} (hs : s < 4) (h0 : τ 19 s ≠ 0) : ∀ (m k : Nat) (σ : ST) (g : Nat → Nat → Int32) (hj : Nat → Nat → Int64) (v4 v5 : Value), k + m = τ 21 s / 4 → CR t n σ τ g hj → (∀ x, 51 ≤ x → g x = g0 x) → (∀ x, 51 ≤ x → hj x = hj0 x) → KC g0 hj0 Q (rdW t n τ s m k σ) →
    wp X (d + 4) m_C_read 38 [.ref 0, .int (nI s), .int (nI k), .int (nI (4 * k)), v4, v5] [] (HP g hj) Q
  | 0, k, σ, g, hj, v4, v5, hk, c, e1, e2, K => by
    have c5 := c.2.2.2.2
    have w := c5.1.1 s hs
    have h1 := c5.2.2 s hs
    rw [if_neg h0] at h1
    rw [s_C_read_38]
    simp (disch := omega) only [↓s_C_read_39, ↓s_C_read_40, ↓s_C_read_41, ↓s_C_read_42, ↓s_C_read_45, ↓s_C_read_48, ↓s_C_read_49, ↓s_C_read_50, ↓s_C_read_121, ↓s_C_read_122, nI_leI, nI_ltI, nI_eq, N_z, nI_add, pk_sub, pk_mul, kL_i, kL_r, kL_d, kL_l, kL_k, kL_f, Option.toList_some, Option.toList_none, List.cons_append, List.nil_append, bI_z, N_and, N_or, N_shl, N_shr, Nat.one_mul, Nat.reduceAdd, lg_cmp_eq, L_and, L_or, bI_1, bI_0, if_true, if_false, reduceIte, N_m1x, ite_not, h1.1]
    rw [if_pos (by omega)]
    exact K g hj c e1 e2
  | m + 1, k, σ, g, hj, v4, v5, hk, c, e1, e2, K => by
    have c5 := c.2.2.2.2
    have w := c5.1.1 s hs
    have h1 := c5.2.2 s hs
    rw [if_neg h0] at h1
    rw [s_C_read_38]
    simp (disch := omega) only [↓s_C_read_39, ↓s_C_read_40, ↓s_C_read_41, ↓s_C_read_42, ↓s_C_read_45, ↓s_C_read_48, ↓s_C_read_49, ↓s_C_read_50, ↓s_C_read_53, ↓s_C_read_54, ↓s_C_read_57, ↓s_C_read_58, ↓s_C_read_59, ↓s_C_read_62, ↓s_C_read_64, ↓s_C_read_65, ↓s_C_read_68, ↓s_C_read_69, ↓s_C_read_70, ↓s_C_read_71, ↓s_C_read_72, ↓s_C_read_75, ↓s_C_read_77, ↓s_C_read_78, ↓s_C_read_80, ↓s_C_read_82, ↓s_C_read_83, ↓s_C_read_86, ↓s_C_read_87, ↓s_C_read_88, ↓s_C_read_89, ↓s_C_read_90, ↓s_C_read_93, ↓s_C_read_94, ↓s_C_read_97, ↓s_C_read_98, ↓s_C_read_99, ↓s_C_read_100, ↓s_C_read_101, ↓s_C_read_104, nI_leI, nI_ltI, nI_eq, N_z, nI_add, pk_sub, pk_mul, kL_i, kL_r, kL_d, kL_l, kL_k, kL_f, Option.toList_some, Option.toList_none, List.cons_append, List.nil_append, bI_z, N_and, N_or, N_shl, N_shr, Nat.one_mul, Nat.reduceAdd, lg_cmp_eq, L_and, L_or, bI_1, bI_0, if_true, if_false, reduceIte, N_m1x, ite_not, h1.1, c_Sheets_item c5 hs h0]
    rw [if_neg (by omega)]
    refine p_C_held c (fun g' hj' c' x1 x2 => ?_)
    have e := heS_p (t := t) (n := n) (σ := σ) (τ := τ) (a1 := rdI τ s (4 * k)) (a2 := rdI τ s (4 * k + 1)) (a3 := rdI τ s (4 * k + 2)) (a4 := rdI τ s (4 * k + 3))
    change CR (heR t n σ τ s k).1 (heR t n σ τ s k).2.1 (heR t n σ τ s k).2.2.1 (heR t n σ τ s k).2.2.2.1 g' hj' at c'
    change heR t n σ τ s k = (t, n, (heR t n σ τ s k).2.2.1, τ, (heR t n σ τ s k).2.2.2.2) at e
    show wp X (d + 4) 12 107 _ (Option.toList (some (.int (heR t n σ τ s k).2.2.2.2)) ++ _) _ _
    have e3 : (heR t n σ τ s k).1 = t := by rw [e]
    have e4 : (heR t n σ τ s k).2.1 = n := by rw [e]
    have e5 : (heR t n σ τ s k).2.2.2.1 = τ := by rw [e]
    rw [e3, e4, e5] at c'
    unfold rdW at K
    simp (disch := omega) only [↓s_C_read_107, ↓s_C_read_110, ↓s_C_read_111, ↓s_C_read_112, ↓s_C_read_115, ↓s_C_read_118, nI_leI, nI_ltI, nI_eq, N_z, nI_add, pk_sub, pk_mul, kL_i, kL_r, kL_d, kL_l, kL_k, kL_f, Option.toList_some, Option.toList_none, List.cons_append, List.nil_append, bI_z, N_and, N_or, N_shl, N_shr, Nat.one_mul, Nat.reduceAdd, lg_cmp_eq, L_and, L_or, bI_1, bI_0, if_true, if_false, reduceIte, N_m1x, ite_not]
    by_cases h2 : 0 ≤ (heR t n σ τ s k).2.2.2.2
    · rw [if_pos h2] at K ⊢
      rw [show 4 * k + 4 = 4 * (k + 1) by omega]
      exact l_C_read hs h0 m (k + 1) _ g' hj' _ _ (by omega) c' (fun x hx => (x1 x hx).trans (e1 x hx)) (fun x hx => (x2 x hx).trans (e2 x hx)) K
    · rw [if_neg h2] at K ⊢
      exact K g' hj' c' (fun x hx => (x1 x hx).trans (e1 x hx)) (fun x hx => (x2 x hx).trans (e2 x hx))
theorem p_C_read (c : CR t n σ τ g hj) (K : KC g hj Q (rdS t n σ τ a)) : cwp X (d + 4) m_C_read [.ref 0, .int a] (HP g hj) Q := by
  unfold rdS at K
  simp only [e_C_read, ↓s_C_read_0, ↓s_C_read_1, ↓s_C_read_4, ↓s_C_read_5, ↓s_C_read_8, ↓s_C_read_11, ↓s_C_read_13, c_Sheets_isSheet, nI_leI, nI_ltI, nI_eq, N_z, nI_add, pk_sub, pk_mul, kL_i, kL_r, kL_d, kL_l, kL_k, kL_f, Option.toList_some, Option.toList_none, List.cons_append, List.nil_append, bI_z, N_and, N_or, N_shl, N_shr, Nat.one_mul, Nat.reduceAdd, lg_cmp_eq, L_and, L_or, bI_1, bI_0, if_true, if_false, reduceIte, N_m1x, ite_not]
  by_cases h1 : inR a 4
  case neg =>
    rw [if_neg h1] at K ⊢
    exact KC_0 c K
  rw [if_pos h1] at K ⊢
  obtain ⟨s, hs, rfl⟩ := inR_n h1 (by omega)
  rw [nn_n (by omega)] at K
  have c5 := c.2.2.2.2
  simp (disch := omega) only [↓s_C_read_14, ↓s_C_read_15, ↓s_C_read_18, ↓s_C_read_19, ↓s_C_read_22, ↓s_C_read_25, ↓s_C_read_26, ↓s_C_read_29, ↓s_C_read_30, ↓s_C_read_33, ↓s_C_read_34, ↓s_C_read_35, ↓s_C_read_36, ↓s_C_read_37, c_Sheets_isLost c5 hs, c_Sheets_find, nI_leI, nI_ltI, nI_eq, N_z, nI_add, pk_sub, pk_mul, kL_i, kL_r, kL_d, kL_l, kL_k, kL_f, Option.toList_some, Option.toList_none, List.cons_append, List.nil_append, bI_z, N_and, N_or, N_shl, N_shr, Nat.one_mul, Nat.reduceAdd, lg_cmp_eq, L_and, L_or, bI_1, bI_0, if_true, if_false, reduceIte, N_m1x, ite_not]
  by_cases h2 : τ 19 s = 0
  · rw [if_pos h2] at K ⊢
    exact K _ _ (CR_fn c (by omega)) (fun k h1 => by simp (disch := omega) only [u2_r]) (fun _ _ => rfl)
  · rw [if_neg h2] at K ⊢
    exact l_C_read hs h2 (τ 21 s / 4) 0 σ g hj _ _ (by omega) c (fun _ _ => rfl) (fun _ _ => rfl) K
theorem l_M_read {g0 : Nat → Nat → Int32} {hj0 : Nat → Nat → Int64} (hs : s < 4) (h0 : τ 19 s ≠ 0) : ∀ (m k : Nat) (σ : ST) (g : Nat → Nat → Int32) (hj : Nat → Nat → Int64) (v3 : Value), k + m = τ 21 s / 4 → MR t n σ τ g hj → (∀ x, x ≤ 50 → g x = g0 x) → (∀ x, x ≤ 50 → hj x = hj0 x) → KM g0 hj0 Q (rdW t n τ s m k σ) →
    wp X (d + 4) m_M_read 27 [.ref 51, .int (nI s), .int (nI k), v3] [] (HP g hj) Q
  | 0, k, σ, g, hj, v3, hk, c, e1, e2, K => by
    have c5 := c.2.2.2
    have w := c5.1.1 s hs
    have h1 := (c5.2.2 s hs).2 (by omega)
    rw [s_M_read_27]
    simp (disch := omega) only [↓s_M_read_28, ↓s_M_read_29, ↓s_M_read_30, ↓s_M_read_31, ↓s_M_read_32, ↓s_M_read_33, ↓s_M_read_36, ↓s_M_read_37, ↓s_M_read_38, ↓s_M_read_95, ↓s_M_read_96, nI_leI, nI_ltI, nI_eq, N_z, nI_add, pk_sub, pk_mul, kL_i, kL_r, kL_d, kL_l, kL_k, kL_f, Option.toList_some, Option.toList_none, List.cons_append, List.nil_append, bI_z, N_and, N_or, N_shl, N_shr, Nat.one_mul, Nat.reduceAdd, lg_cmp_eq, L_and, L_or, bI_1, bI_0, if_true, if_false, reduceIte, N_m1x, ite_not, h1.1]
    rw [if_pos (by omega)]
    exact K g hj c e1 e2
  | m + 1, k, σ, g, hj, v3, hk, c, e1, e2, K => by
    have c5 := c.2.2.2
    have w := c5.1.1 s hs
    have h1 := (c5.2.2 s hs).2 (by omega)
    have i0 := h1.2.2 (4 * k) (by omega)
    have i1 := h1.2.2 (4 * k + 1) (by omega)
    have i2 := h1.2.2 (4 * k + 2) (by omega)
    have i3 := h1.2.2 (4 * k + 3) (by omega)
    rw [s_M_read_27]
    simp (disch := omega) only [↓s_M_read_28, ↓s_M_read_29, ↓s_M_read_30, ↓s_M_read_31, ↓s_M_read_32, ↓s_M_read_33, ↓s_M_read_36, ↓s_M_read_37, ↓s_M_read_38, ↓s_M_read_41, ↓s_M_read_43, ↓s_M_read_44, ↓s_M_read_45, ↓s_M_read_46, ↓s_M_read_47, ↓s_M_read_48, ↓s_M_read_49, ↓s_M_read_50, ↓s_M_read_51, ↓s_M_read_52, ↓s_M_read_55, ↓s_M_read_56, ↓s_M_read_57, ↓s_M_read_58, ↓s_M_read_61, ↓s_M_read_62, ↓s_M_read_63, ↓s_M_read_64, ↓s_M_read_65, ↓s_M_read_66, ↓s_M_read_69, ↓s_M_read_70, ↓s_M_read_71, ↓s_M_read_72, ↓s_M_read_73, ↓s_M_read_74, ↓s_M_read_77, ↓s_M_read_78, ↓s_M_read_79, ↓s_M_read_80, ↓s_M_read_81, nI_leI, nI_ltI, nI_eq, N_z, nI_add, pk_sub, pk_mul, kL_i, kL_r, kL_d, kL_l, kL_k, kL_f, Option.toList_some, Option.toList_none, List.cons_append, List.nil_append, bI_z, N_and, N_or, N_shl, N_shr, Nat.one_mul, Nat.reduceAdd, lg_cmp_eq, L_and, L_or, bI_1, bI_0, if_true, if_false, reduceIte, N_m1x, ite_not, h1.1, Nat.add_assoc, i0, i1, i2, i3]
    rw [if_neg (by omega)]
    refine p_M_holds c (fun g' hj' c' x1 x2 => ?_)
    have e := heS_p (t := t) (n := n) (σ := σ) (τ := τ) (a1 := rdI τ s (4 * k)) (a2 := rdI τ s (4 * k + 1)) (a3 := rdI τ s (4 * k + 2)) (a4 := rdI τ s (4 * k + 3))
    change MR (heR t n σ τ s k).1 (heR t n σ τ s k).2.1 (heR t n σ τ s k).2.2.1 (heR t n σ τ s k).2.2.2.1 g' hj' at c'
    change heR t n σ τ s k = (t, n, (heR t n σ τ s k).2.2.1, τ, (heR t n σ τ s k).2.2.2.2) at e
    show wp X (d + 4) 144 84 _ (Option.toList (some (.int (heR t n σ τ s k).2.2.2.2)) ++ _) _ _
    have e3 : (heR t n σ τ s k).1 = t := by rw [e]
    have e4 : (heR t n σ τ s k).2.1 = n := by rw [e]
    have e5 : (heR t n σ τ s k).2.2.2.1 = τ := by rw [e]
    rw [e3, e4, e5] at c'
    unfold rdW at K
    simp (disch := omega) only [↓s_M_read_84, ↓s_M_read_87, ↓s_M_read_88, ↓s_M_read_89, ↓s_M_read_92, nI_leI, nI_ltI, nI_eq, N_z, nI_add, pk_sub, pk_mul, kL_i, kL_r, kL_d, kL_l, kL_k, kL_f, Option.toList_some, Option.toList_none, List.cons_append, List.nil_append, bI_z, N_and, N_or, N_shl, N_shr, Nat.one_mul, Nat.reduceAdd, lg_cmp_eq, L_and, L_or, bI_1, bI_0, if_true, if_false, reduceIte, N_m1x, ite_not]
    by_cases h2 : 0 ≤ (heR t n σ τ s k).2.2.2.2
    · rw [if_pos h2] at K ⊢
      exact l_M_read hs h0 m (k + 1) _ g' hj' _ (by omega) c' (fun x hx => (x1 x hx).trans (e1 x hx)) (fun x hx => (x2 x hx).trans (e2 x hx)) K
    · rw [if_neg h2] at K ⊢
      exact K g' hj' c' (fun x hx => (x1 x hx).trans (e1 x hx)) (fun x hx => (x2 x hx).trans (e2 x hx))
theorem p_M_read (c : MR t n σ τ g hj) (K : KM g hj Q (rdS t n σ τ a)) : cwp X (d + 4) m_M_read [.ref 51, .int a] (HP g hj) Q := by
  unfold rdS at K
  simp only [e_M_read, ↓s_M_read_0, ↓s_M_read_1, ↓s_M_read_4, ↓s_M_read_7, ↓s_M_read_9, c_M_isSheet, nI_leI, nI_ltI, nI_eq, N_z, nI_add, pk_sub, pk_mul, kL_i, kL_r, kL_d, kL_l, kL_k, kL_f, Option.toList_some, Option.toList_none, List.cons_append, List.nil_append, bI_z, N_and, N_or, N_shl, N_shr, Nat.one_mul, Nat.reduceAdd, lg_cmp_eq, L_and, L_or, bI_1, bI_0, if_true, if_false, reduceIte, N_m1x, ite_not]
  by_cases h1 : inR a 4
  case neg =>
    rw [if_neg h1] at K ⊢
    exact KM_0 c K
  rw [if_pos h1] at K ⊢
  obtain ⟨s, hs, rfl⟩ := inR_n h1 (by omega)
  rw [nn_n (by omega)] at K
  have c5 := c.2.2.2
  simp (disch := omega) only [↓s_M_read_10, ↓s_M_read_11, ↓s_M_read_14, ↓s_M_read_15, ↓s_M_read_16, ↓s_M_read_19, ↓s_M_read_20, ↓s_M_read_21, ↓s_M_read_24, ↓s_M_read_25, ↓s_M_read_26, MS_0 c5 hs, c_M_meets, nI_leI, nI_ltI, nI_eq, N_z, nI_add, pk_sub, pk_mul, kL_i, kL_r, kL_d, kL_l, kL_k, kL_f, Option.toList_some, Option.toList_none, List.cons_append, List.nil_append, bI_z, N_and, N_or, N_shl, N_shr, Nat.one_mul, Nat.reduceAdd, lg_cmp_eq, L_and, L_or, bI_1, bI_0, if_true, if_false, reduceIte, N_m1x, ite_not]
  by_cases h2 : τ 19 s = 0
  · rw [if_pos h2] at K ⊢
    exact K _ _ (MR_fn c (by omega)) (fun k h1 => by simp (disch := omega) only [u2_r]) (fun _ _ => rfl)
  · rw [if_neg h2] at K ⊢
    exact l_M_read hs h2 (τ 21 s / 4) 0 σ g hj _ (by omega) c (fun _ _ => rfl) (fun _ _ => rfl) K
end RD
