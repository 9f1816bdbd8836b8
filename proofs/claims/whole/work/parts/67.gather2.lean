section GATH2
variable {X : AX} {d : Nat} {Q : Option Value → AH → Prop} {g0 : Nat → Nat → Int32} {hj0 : Nat → Nat → Int64} {σ : ST} {l r : Nat}
theorem bas_mono {Ls : List Nat} {p : Nat} : ∀ k, bas σ Ls p ≤ bas σ Ls (p + k)
  | 0 => Nat.le_refl _
  | k + 1 => by
    have := bas_mono (Ls := Ls) (p := p) k
    have e : bas σ Ls (p + (k + 1)) = bas σ Ls (p + k) + on σ (Ls.getD (p + k) 0) 6 := rfl
    omega
theorem bas_in {Ls : List Nat} {p q i : Nat} (h : p < q) (hi : i < on σ (Ls.getD p 0) 6) : bas σ Ls p + i < bas σ Ls q := by
  have h1 := bas_mono (σ := σ) (Ls := Ls) (p := p + 1) (q - (p + 1))
  rw [show p + 1 + (q - (p + 1)) = q by omega] at h1
  have h2 : bas σ Ls (p + 1) = bas σ Ls p + on σ (Ls.getD p 0) 6 := rfl
  omega
theorem pl_mono {m : Nat} : ∀ k, (pl σ m).length ≤ (pl σ (m + k)).length
  | 0 => Nat.le_refl _
  | k + 1 => by
    have := pl_mono (m := m) k
    have e : pl σ (m + (k + 1)) = if (σ 18 0).testBit (m + k) = true then pl σ (m + k) else pl σ (m + k) ++ [m + k] := rfl
    rw [e]
    split
    · exact this
    · rw [List.length_append]; omega
theorem pl_bd {m : Nat} (h : m ≤ σ 11 0) : (pl σ m).length ≤ (PL σ).length := by
  have := pl_mono (σ := σ) (m := m) (σ 11 0 - m)
  rw [show m + (σ 11 0 - m) = σ 11 0 by omega] at this
  exact this
def GR (σ : ST) (g0 g : Nat → Nat → Int32) (hj0 hj : Nat → Nat → Int64) (l r : Nat) : Prop :=
  Fr24 g0 g hj0 hj ∧ g 24 2 = nI (pl σ l).length ∧ g 24 9 = nI (bas σ (pl σ l) (pl σ l).length + on σ l r) ∧ rdC1 σ g hj (pl σ l) ∧ g 25 (pl σ l).length = nI l ∧ (∀ x, x < r → g 26 ((pl σ l).length * 6 + x) = nI (bas σ (pl σ l) (pl σ l).length + on σ l x)) ∧ EC σ g hj (bas σ (pl σ l) (pl σ l).length) l (ops σ l r)
theorem kp_dd0 (h : dd σ l r = 0) : ∀ t, kp σ l r t = []
  | 0 => rfl
  | t + 1 => by
    have hc : cbb σ l r t = false := by
      have := cb_eq (σ := σ) (l := l) (r := r) (t := t)
      by_cases e : cbb σ l r t = true
      · exact absurd h (this.mp e).2
      · simpa using e
    unfold kp
    rw [hc, kp_dd0 h t]
    simp
theorem kp_big (h : σ 2 0 ≤ r) : ∀ t, kp σ l r t = []
  | 0 => rfl
  | t + 1 => by
    unfold kp
    rw [kp_big h t]
    simp
    omega
theorem l_gather2 (c : C0 σ g0 hj0) (hl : l < σ 11 0) (hP : (pl σ l).length < 8) {v3 v4 : Value} (Kc : ∀ g hj v3 v4, GR σ g0 g hj0 hj l 6 → wp X (d + 4) m_Choices_gather 132 [.ref 24, .int (nI l), .int (nI 6), v3, v4] [] (HP g hj) Q) :
    ∀ (m r : Nat) (g : Nat → Nat → Int32) (hj : Nat → Nat → Int64) (v3 v4 : Value), r + m = 6 → GR σ g0 g hj0 hj l r → wp X (d + 4) m_Choices_gather 61 [.ref 24, .int (nI l), .int (nI r), v3, v4] [] (HP g hj) Q
  | 0, r, g, hj, v3, v4, hr, o => by
    have : r = 6 := by omega
    subst this
    rw [s_Choices_gather_61]
    simp (disch := omega) only [↓s_Choices_gather_62, ↓s_Choices_gather_64, nI_leI, nI_ltI, nI_eq, N_z, nI_add, pk_sub, pk_mul, kL_i, kL_r, kL_d, kL_l, kL_k, kL_f, Option.toList_some, Option.toList_none, List.cons_append, List.nil_append, bI_z, N_and, N_or, N_shl, N_shr, Nat.one_mul, Nat.reduceAdd, lg_cmp_eq, L_and, L_or, bI_1, bI_0, if_true, if_false, reduceIte, N_m1x, ite_not, Nat.le_refl]
    exact Kc g hj v3 v4 o
  | m + 1, r, g, hj, v3, v4, hr, o => by
    obtain ⟨o1, o2, o3, o4, o5, o6, o7⟩ := id o
    have w := c.1.2.1.1
    have w1 := c.1.2.2.2.1.1
    have hB := bas_le (σ := σ) (Ls := pl σ l) (pl σ l).length
    have b1 := on_le (σ := σ) (l := l) r
    have er : g 3 3 = nI (σ 2 0) := by rw [o1.1 3 (by omega)]; exact c.2.1.1
    have f1 : Fr24 g0 (up2 g 26 ((pl σ l).length * 6 + r) (nI (bas σ (pl σ l) (pl σ l).length + on σ l r))) hj0 hj := ⟨fun k hk => by rw [u2_r _ _ _ (by omega)]; exact o1.1 k hk, o1.2⟩
    have c1 := Fr24_C0 c f1
    have olds : ∀ (g' : Nat → Nat → Int32) (hj' : Nat → Nat → Int64), g' 25 = g 25 → (∀ x, x ≠ (pl σ l).length * 6 + r → g' 26 x = g 26 x) → (∀ x, x < bas σ (pl σ l) (pl σ l).length → g' 27 x = g 27 x ∧ g' 28 x = g 28 x ∧ g' 29 x = g 29 x ∧ g' 30 x = g 30 x ∧ hj' 31 x = hj 31 x) → rdC1 σ g' hj' (pl σ l) := by
      intro g' hj' q1 q2 q3 p hp
      obtain ⟨z1, z2, z3⟩ := o4 p hp
      refine ⟨by rw [q1]; exact z1, fun x hx => by rw [q2 _ (by omega)]; exact z2 x hx, fun i hi => ?_⟩
      obtain ⟨y1, y2, y3, y4, y5⟩ := q3 _ (bas_in hp hi)
      rw [y1, y2, y3, y4, y5]
      exact z3 i hi
    rw [s_Choices_gather_61]
    simp (disch := omega) only [↓s_Choices_gather_62, ↓s_Choices_gather_64, ↓s_Choices_gather_67, ↓s_Choices_gather_68, ↓s_Choices_gather_71, ↓s_Choices_gather_72, ↓s_Choices_gather_75, ↓s_Choices_gather_77, ↓s_Choices_gather_78, ↓s_Choices_gather_79, ↓s_Choices_gather_80, ↓s_Choices_gather_81, ↓s_Choices_gather_84, ↓s_Choices_gather_85, ↓s_Choices_gather_86, ↓s_Choices_gather_87, ↓s_Choices_gather_90, ↓s_Choices_gather_93, ↓s_Choices_gather_96, nI_leI, nI_ltI, nI_eq, N_z, nI_add, pk_sub, pk_mul, kL_i, kL_r, kL_d, kL_l, kL_k, kL_f, Option.toList_some, Option.toList_none, List.cons_append, List.nil_append, bI_z, N_and, N_or, N_shl, N_shr, Nat.one_mul, Nat.reduceAdd, lg_cmp_eq, L_and, L_or, bI_1, bI_0, if_true, if_false, reduceIte, N_m1x, ite_not, u2_s, u2_n, u2_m, o2, o3, er]
    rw [if_neg (by omega)]
    -- nothing of this ring
    have none_ : (∀ t, kp σ l r t = []) → ∀ v3 v4, wp X (d + 4) m_Choices_gather 126 [.ref 24, .int (nI l), .int (nI r), v3, v4] [] (HP (up2 g 26 ((pl σ l).length * 6 + r) (nI (bas σ (pl σ l) (pl σ l).length + on σ l r))) hj) Q := by
      intro hk v3 v4
      have e1 : on σ l (r + 1) = on σ l r := by rw [on_s, hk]; rfl
      have e2 : ops σ l (r + 1) = ops σ l r := by rw [ops, hk]; simp
      simp (disch := omega) only [↓s_Choices_gather_126, ↓s_Choices_gather_129, nI_leI, nI_ltI, nI_eq, N_z, nI_add, pk_sub, pk_mul, kL_i, kL_r, kL_d, kL_l, kL_k, kL_f, Option.toList_some, Option.toList_none, List.cons_append, List.nil_append, bI_z, N_and, N_or, N_shl, N_shr, Nat.one_mul, Nat.reduceAdd, lg_cmp_eq, L_and, L_or, bI_1, bI_0, if_true, if_false, reduceIte, N_m1x, ite_not]
      refine l_gather2 c hl hP (v3 := v3) (v4 := v4) Kc m (r + 1) _ hj _ _ (by omega) ⟨f1, ?_, ?_, ?_, ?_, fun x hx => ?_, ?_⟩
      · rw [u2_n _ _ _ _ (by omega)]; exact o2
      · rw [u2_n _ _ _ _ (by omega), e1]; exact o3
      · exact olds _ _ (u2_r _ _ _ (by omega)) (fun x hx => u2_m _ _ _ _ hx) (fun x hx => ⟨u2_n _ _ _ _ (by omega), u2_n _ _ _ _ (by omega), u2_n _ _ _ _ (by omega), u2_n _ _ _ _ (by omega), rfl⟩)
      · rw [u2_n _ _ _ _ (by omega)]; exact o5
      · by_cases e : x = r
        · subst e; rw [u2_s]
        · rw [u2_m _ _ _ _ (by omega)]; exact o6 x (by omega)
      · rw [e2]
        intro i hi
        have := o7 i hi
        simp (disch := omega) only [u2_n]
        exact this
    by_cases h1 : σ 2 0 ≤ r
    · rw [if_pos h1]
      simp (disch := omega) only [↓s_Choices_gather_111, ↓s_Choices_gather_112, ↓s_Choices_gather_113, ↓s_Choices_gather_114, ↓s_Choices_gather_115, ↓s_Choices_gather_116, nI_leI, nI_ltI, nI_eq, N_z, nI_add, pk_sub, pk_mul, kL_i, kL_r, kL_d, kL_l, kL_k, kL_f, Option.toList_some, Option.toList_none, List.cons_append, List.nil_append, bI_z, N_and, N_or, N_shl, N_shr, Nat.one_mul, Nat.reduceAdd, lg_cmp_eq, L_and, L_or, bI_1, bI_0, if_true, if_false, reduceIte, N_m1x, ite_not]
      exact none_ (kp_big h1) _ _
    rw [if_neg h1]
    have ddl := dd_lt c.1 hl r
    simp (disch := first | assumption | omega) only [↓s_Choices_gather_99, ↓s_Choices_gather_100, ↓s_Choices_gather_103, ↓s_Choices_gather_104, ↓s_Choices_gather_105, ↓s_Choices_gather_108, ↓s_Choices_gather_111, ↓s_Choices_gather_112, ↓s_Choices_gather_113, ↓s_Choices_gather_114, ↓s_Choices_gather_115, ↓s_Choices_gather_116, nI_leI, nI_ltI, nI_eq, N_z, nI_add, pk_sub, pk_mul, kL_i, kL_r, kL_d, kL_l, kL_k, kL_f, Option.toList_some, Option.toList_none, List.cons_append, List.nil_append, bI_z, N_and, N_or, N_shl, N_shr, Nat.one_mul, Nat.reduceAdd, lg_cmp_eq, L_and, L_or, bI_1, bI_0, if_true, if_false, reduceIte, N_m1x, ite_not, c_Matches_sharedDays c1, L_inj]
    by_cases h2 : dd σ l r = 0
    · rw [if_pos h2]
      exact none_ (kp_dd0 h2) _ _
    rw [if_neg h2]
    have e9 : up2 g 26 ((pl σ l).length * 6 + r) (nI (bas σ (pl σ l) (pl σ l).length + on σ l r)) 24 9 = nI (bas σ (pl σ l) (pl σ l).length + on σ l r) := by rw [u2_n _ _ _ _ (by omega)]; exact o3
    simp (disch := omega) only [↓s_Choices_gather_119, ↓s_Choices_gather_120, ↓s_Choices_gather_121, ↓s_Choices_gather_122, ↓s_Choices_gather_123, e_Choices_gatherTurns, ↓s_Choices_gatherTurns_0, ↓s_Choices_gatherTurns_1, ↓s_Choices_gatherTurns_4, ↓s_Choices_gatherTurns_6, ↓s_Choices_gatherTurns_7, kL_i, kL_d, kL_l, kL_k, e9]
    have ek : kp σ l r 0 = [] := rfl
    refine l_gatherTurns (g0 := up2 g 26 ((pl σ l).length * 6 + r) (nI (bas σ (pl σ l) (pl σ l).length + on σ l r))) (hj0 := hj) (B := bas σ (pl σ l) (pl σ l).length) c1 hl (by omega) (by omega) h2 (by omega) (fun g' hj' t' => ?_) 4 0 _ _ rfl ?_
    · obtain ⟨t1, t2, t3, t4, t5, t6, t7⟩ := t'
      have e2 : ops σ l r ++ (kp σ l r 4).map (fun t => (r, t)) = ops σ l (r + 1) := rfl
      rw [e2] at t2 t6
      simp (disch := omega) only [↓s_Choices_gather_126, ↓s_Choices_gather_129, nI_leI, nI_ltI, nI_eq, N_z, nI_add, pk_sub, pk_mul, kL_i, kL_r, kL_d, kL_l, kL_k, kL_f, Option.toList_some, Option.toList_none, List.cons_append, List.nil_append, bI_z, N_and, N_or, N_shl, N_shr, Nat.one_mul, Nat.reduceAdd, lg_cmp_eq, L_and, L_or, bI_1, bI_0, if_true, if_false, reduceIte, N_m1x, ite_not]
      refine l_gather2 c hl hP (v3 := v3) (v4 := v4) Kc m (r + 1) g' hj' _ _ (by omega) ⟨⟨fun k hk => ?_, fun k hk => ?_⟩, ?_, ?_, ?_, ?_, fun x hx => ?_, t6⟩
      · rw [t1.1 k hk]; exact f1.1 k hk
      · rw [t1.2 k hk]; exact f1.2 k hk
      · rw [t3, u2_n _ _ _ _ (by omega)]; exact o2
      · exact t2
      · refine olds g' hj' (by rw [t4, u2_r _ _ _ (by omega)]) (fun x hx => by rw [t5, u2_m _ _ _ _ hx]) (fun x hx => ?_)
        obtain ⟨y1, y2, y3, y4, y5⟩ := t7 x hx
        rw [y1, y2, y3, y4, y5]
        exact ⟨u2_n _ _ _ _ (by omega), u2_n _ _ _ _ (by omega), u2_n _ _ _ _ (by omega), u2_n _ _ _ _ (by omega), rfl⟩
      · rw [t4, u2_n _ _ _ _ (by omega)]; exact o5
      · rw [t5]
        by_cases e : x = r
        · subst e; rw [u2_s]
        · rw [u2_m _ _ _ _ (by omega)]; exact o6 x (by omega)
    · rw [ek, List.map_nil, List.append_nil]
      refine ⟨⟨fun _ _ => rfl, fun _ _ => rfl⟩, e9, rfl, rfl, rfl, fun i hi => ?_, fun _ _ => ⟨rfl, rfl, rfl, rfl, rfl⟩⟩
      have := o7 i hi
      simp (disch := omega) only [u2_n]
      exact this
def GMl (σ : ST) (g0 g : Nat → Nat → Int32) (hj0 hj : Nat → Nat → Int64) (l : Nat) : Prop := Fr24 g0 g hj0 hj ∧ g 24 2 = nI (pl σ l).length ∧ g 24 9 = nI (bas σ (pl σ l) (pl σ l).length) ∧ rdC1 σ g hj (pl σ l)
theorem l_gather1 (c : C0 σ g0 hj0) (h8 : (PL σ).length ≤ 8) (Kc : ∀ g hj, Fr24 g0 g hj0 hj → rdCh g hj σ (PL σ) → Q none (HP g hj)) :
    ∀ (m l : Nat) (g : Nat → Nat → Int32) (hj : Nat → Nat → Int64) (v2 v3 v4 : Value), l + m = σ 11 0 → GMl σ g0 g hj0 hj l → wp X (d + 4) m_Choices_gather 12 [.ref 24, .int (nI l), v2, v3, v4] [] (HP g hj) Q
  | 0, l, g, hj, v2, v3, v4, hl, ⟨o1, o2, o3, o4⟩ => by
    have w1 := c.1.2.2.2.1.1
    have e0 : g 10 7 = nI (σ 11 0) := by rw [o1.1 10 (by omega)]; exact c.2.2.2.1
    have : l = σ 11 0 := by omega
    subst this
    have hB := bas_le (σ := σ) (Ls := pl σ (σ 11 0)) (pl σ (σ 11 0)).length
    change (pl σ (σ 11 0)).length ≤ 8 at h8
    rw [s_Choices_gather_12]
    simp (disch := omega) only [↓s_Choices_gather_13, ↓s_Choices_gather_14, ↓s_Choices_gather_17, ↓s_Choices_gather_20, ↓s_Choices_gather_23, ↓s_Choices_gather_148, ↓s_Choices_gather_149, ↓s_Choices_gather_152, ↓s_Choices_gather_153, ↓s_Choices_gather_156, ↓s_Choices_gather_158, ↓s_Choices_gather_159, ↓s_Choices_gather_160, ↓s_Choices_gather_163, ↓s_Choices_gather_164, nI_leI, nI_ltI, nI_eq, N_z, nI_add, pk_sub, pk_mul, kL_i, kL_r, kL_d, kL_l, kL_k, kL_f, Option.toList_some, Option.toList_none, List.cons_append, List.nil_append, bI_z, N_and, N_or, N_shl, N_shr, Nat.one_mul, Nat.reduceAdd, lg_cmp_eq, L_and, L_or, bI_1, bI_0, if_true, if_false, reduceIte, N_m1x, ite_not, e0, Nat.le_refl, o2, o3]
    refine Kc _ _ ⟨fun k hk => by rw [u2_r _ _ _ (by omega)]; exact o1.1 k hk, o1.2⟩ ⟨?_, fun p hp => ?_, ?_⟩
    · rw [u2_n _ _ _ _ (by omega)]; exact o2
    · obtain ⟨z1, z2, z3⟩ := o4 p hp
      change p < (pl σ (σ 11 0)).length at hp
      refine ⟨by rw [u2_n _ _ _ _ (by omega)]; exact z1, fun x hx => by rw [u2_m _ _ _ _ (by omega)]; exact z2 x hx, fun i hi => ?_⟩
      have := z3 i hi
      simp (disch := omega) only [u2_n]
      exact this
    · rw [u2_s]
  | m + 1, l, g, hj, v2, v3, v4, hl, ⟨o1, o2, o3, o4⟩ => by
    have w1 := c.1.2.2.2.1.1
    have e0 : g 10 7 = nI (σ 11 0) := by rw [o1.1 10 (by omega)]; exact c.2.2.2.1
    have c1 := Fr24_C0 c o1
    have pb := pl_bd (σ := σ) (m := l) (by omega)
    have pb2 := pl_bd (σ := σ) (m := l + 1) (by omega)
    have ep : pl σ (l + 1) = if (σ 18 0).testBit l = true then pl σ l else pl σ l ++ [l] := rfl
    rw [s_Choices_gather_12]
    simp (disch := omega) only [↓s_Choices_gather_13, ↓s_Choices_gather_14, ↓s_Choices_gather_17, ↓s_Choices_gather_20, ↓s_Choices_gather_23, ↓s_Choices_gather_26, ↓s_Choices_gather_27, ↓s_Choices_gather_30, ↓s_Choices_gather_33, ↓s_Choices_gather_34, ↓s_Choices_gather_37, ↓s_Choices_gather_40, ↓s_Choices_gather_41, ↓s_Choices_gather_44, ↓s_Choices_gather_46, nI_leI, nI_ltI, nI_eq, N_z, nI_add, pk_sub, pk_mul, kL_i, kL_r, kL_d, kL_l, kL_k, kL_f, Option.toList_some, Option.toList_none, List.cons_append, List.nil_append, bI_z, N_and, N_or, N_shl, N_shr, Nat.one_mul, Nat.reduceAdd, lg_cmp_eq, L_and, L_or, bI_1, bI_0, if_true, if_false, reduceIte, N_m1x, ite_not, e0, o2, c_Lumps_isAside c1]
    rw [if_neg (by omega)]
    by_cases hA : (σ 18 0).testBit l = true
    · rw [if_pos hA] at ep ⊢
      simp (disch := omega) only [↓s_Choices_gather_142, ↓s_Choices_gather_145, nI_leI, nI_ltI, nI_eq, N_z, nI_add, pk_sub, pk_mul, kL_i, kL_r, kL_d, kL_l, kL_k, kL_f, Option.toList_some, Option.toList_none, List.cons_append, List.nil_append, bI_z, N_and, N_or, N_shl, N_shr, Nat.one_mul, Nat.reduceAdd, lg_cmp_eq, L_and, L_or, bI_1, bI_0, if_true, if_false, reduceIte, N_m1x, ite_not]
      exact l_gather1 c h8 Kc m (l + 1) g hj _ _ _ (by omega) (by unfold GMl; rw [ep]; exact ⟨o1, o2, o3, o4⟩)
    · rw [if_neg hA] at ep ⊢
      rw [ep, List.length_append] at pb2
      simp only [List.length_cons, List.length_nil, Nat.zero_add] at pb2
      rw [if_neg (by omega)]
      simp (disch := omega) only [↓s_Choices_gather_49, ↓s_Choices_gather_50, ↓s_Choices_gather_53, ↓s_Choices_gather_54, ↓s_Choices_gather_57, ↓s_Choices_gather_58, ↓s_Choices_gather_59, ↓s_Choices_gather_60, nI_leI, nI_ltI, nI_eq, N_z, nI_add, pk_sub, pk_mul, kL_i, kL_r, kL_d, kL_l, kL_k, kL_f, Option.toList_some, Option.toList_none, List.cons_append, List.nil_append, bI_z, N_and, N_or, N_shl, N_shr, Nat.one_mul, Nat.reduceAdd, lg_cmp_eq, L_and, L_or, bI_1, bI_0, if_true, if_false, reduceIte, N_m1x, ite_not, o2]
      refine l_gather2 (v3 := v3) (v4 := v4) c (by omega) (by omega) (fun g' hj' v3 v4 o' => ?_) 6 0 _ hj _ _ rfl ⟨⟨fun k hk => by rw [u2_r _ _ _ (by omega)]; exact o1.1 k hk, o1.2⟩, ?_, ?_, fun p hp => ?_, u2_s _ _ _ _, fun x hx => by omega, fun i hi => by simp [ops] at hi⟩
      · obtain ⟨p1, p2, p3, p4, p5, p6, p7⟩ := o'
        simp (disch := omega) only [↓s_Choices_gather_132, ↓s_Choices_gather_133, ↓s_Choices_gather_134, ↓s_Choices_gather_137, ↓s_Choices_gather_138, ↓s_Choices_gather_139, ↓s_Choices_gather_142, ↓s_Choices_gather_145, nI_leI, nI_ltI, nI_eq, N_z, nI_add, pk_sub, pk_mul, kL_i, kL_r, kL_d, kL_l, kL_k, kL_f, Option.toList_some, Option.toList_none, List.cons_append, List.nil_append, bI_z, N_and, N_or, N_shl, N_shr, Nat.one_mul, Nat.reduceAdd, lg_cmp_eq, L_and, L_or, bI_1, bI_0, if_true, if_false, reduceIte, N_m1x, ite_not, p2]
        have elen : (pl σ (l + 1)).length = (pl σ l).length + 1 := by rw [ep, List.length_append]; rfl
        refine l_gather1 c h8 Kc m (l + 1) _ hj' _ _ _ (by omega) ⟨⟨fun k hk => by rw [u2_r _ _ _ (by omega)]; exact p1.1 k hk, p1.2⟩, ?_, ?_, fun p hp => ?_⟩
        · rw [u2_s, elen]
        · rw [u2_m _ _ _ _ (by omega), p3, elen, ep]
          show nI _ = nI (bas σ (pl σ l ++ [l]) (pl σ l).length + on σ ((pl σ l ++ [l]).getD (pl σ l).length 0) 6)
          rw [bas_app _ (Nat.le_refl _), gD_r]
        · rw [elen] at hp
          rw [ep]
          by_cases e : p = (pl σ l).length
          · subst e
            rw [gD_r, bas_app _ (Nat.le_refl _)]
            refine ⟨by rw [u2_n _ _ _ _ (by omega)]; exact p5, fun x hx => by rw [u2_n _ _ _ _ (by omega)]; exact p6 x hx, fun i hi => ?_⟩
            have := p7 i hi
            simp (disch := omega) only [u2_n]
            exact this
          · rw [gD_l (by omega), bas_app _ (by omega)]
            obtain ⟨z1, z2, z3⟩ := p4 p (by omega)
            refine ⟨by rw [u2_n _ _ _ _ (by omega)]; exact z1, fun x hx => by rw [u2_n _ _ _ _ (by omega)]; exact z2 x hx, fun i hi => ?_⟩
            have := z3 i hi
            simp (disch := omega) only [u2_n]
            exact this
      · rw [u2_n _ _ _ _ (by omega)]; exact o2
      · rw [u2_n _ _ _ _ (by omega)]; exact o3
      · obtain ⟨z1, z2, z3⟩ := o4 p hp
        refine ⟨by rw [u2_m _ _ _ _ (by omega)]; exact z1, fun x hx => by rw [u2_n _ _ _ _ (by omega)]; exact z2 x hx, fun i hi => ?_⟩
        have := z3 i hi
        simp (disch := omega) only [u2_n]
        exact this
theorem c_gather (c : C0 σ g0 hj0) (h8 : (PL σ).length ≤ 8) (Kc : ∀ g hj, Fr24 g0 g hj0 hj → rdCh g hj σ (PL σ) → Q none (HP g hj)) : cwp X (d + 4) m_Choices_gather [.ref 24] (HP g0 hj0) Q := by
  simp only [e_Choices_gather, ↓s_Choices_gather_0, ↓s_Choices_gather_1, ↓s_Choices_gather_2, ↓s_Choices_gather_5, ↓s_Choices_gather_6, ↓s_Choices_gather_7, ↓s_Choices_gather_10, ↓s_Choices_gather_11, kL_r, kL_d]
  refine l_gather1 c h8 Kc (σ 11 0) 0 _ hj0 _ _ _ (by omega) ⟨⟨fun k hk => ?_, fun _ _ => rfl⟩, ?_, ?_, fun p hp => by simp [pl] at hp⟩
  · simp (disch := omega) only [u2_r]
  · simp (disch := omega) only [u2_s, u2_n, u2_m]; rfl
  · simp (disch := omega) only [u2_s, u2_n, u2_m]; rfl
end GATH2
