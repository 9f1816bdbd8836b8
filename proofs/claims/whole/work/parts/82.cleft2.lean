/-! fewestLeftOut -/
section CLEFT2
variable {X : AX} {d : Nat} {Q : Option Value → AH → Prop} {g g' : Nat → Nat → Int32} {hj : Nat → Nat → Int64} {σ τ : ST} {t : Nat → Nat} {n : Nat} {x y : Nat}
theorem CTP_in0 {S : Nat → Prop} {r : Nat} : CTP σ (inA (PL σ) (2 ^ 0 - 1)) S (fun _ => 0) r ↔ CTP σ (fun _ => False) S (fun _ => 0) r := CTP_cg (fun l => by
  constructor
  · rintro ⟨q, _⟩
    obtain ⟨p, p1, _⟩ := inA_k.mp q
    omega
  · rintro ⟨q, _⟩; exact q.elim) (fun _ _ _ => rfl) (fun _ => Iff.rfl)
theorem FR_SS (ge : GE g) (f : FR σ g hj) : SS1 σ (PL σ) 0 (fun _ => 0) g := by
  refine ⟨GI_0.mpr ⟨fun r hr => (ge.1 r hr).1, ge.2⟩, ⟨fun r hr => ⟨0, Nat.le_refl _, (f.2.2.1 r hr).1, Or.inl rfl, fun q q1 q2 => by omega⟩, fun r hr c0 hc0 hl x hx => ?_⟩, fun r hr => (ge.1 r hr).2, fun r hr => ?_⟩
  · have : c0 = 0 := by omega
    subst this
    rcases (f.2.2.1 r hr).2 x hx with q | ⟨q1, q2⟩ | ⟨q1, q2⟩
    · exact Or.inl q
    · exact Or.inr (Or.inl ⟨q1, CTP_in0.mpr q2⟩)
    · exact Or.inr (Or.inr ⟨q1, fun z => q2 (CTP_in0.mp z)⟩)
  · refine AGM_A.mpr (AGL_0 (fun l hl => ?_))
    obtain ⟨q, q1, _⟩ := inA_k.mp hl.1
    omega
theorem SS_FR (f : FR σ g hj) (e : ∀ i, i < 33 ∨ i = 38 ∨ i = 40 ∨ 42 ≤ i → g' i = g i) (ss : SS1 σ (PL σ) 0 (fun _ => 0) g') : GE g' ∧ FR σ g' hj := by
  have gi0 := GI_0.mp ss.1
  refine ⟨⟨fun r hr => ⟨gi0.1 r hr, ss.2.2.1 r hr⟩, gi0.2⟩, f.1, rdCh_cg f.2.1 (fun k _ _ => e k (by omega)) rfl, fun r hr => ?_, by rw [e 19 (by omega)]; exact f.2.2.2.1, by rw [e 19 (by omega)]; exact f.2.2.2.2.1, by rw [e 21 (by omega), e 22 (by omega), e 23 (by omega)]; exact f.2.2.2.2.2⟩
  refine ⟨by rw [e 40 (by omega)]; exact (f.2.2.1 r hr).1, fun x hx => ?_⟩
  rcases ss.2.1.2 r hr 0 (Nat.le_refl _) (Or.inl rfl) x hx with q | ⟨q1, q2⟩ | ⟨q1, q2⟩
  · exact Or.inl q
  · exact Or.inr (Or.inl ⟨q1, CTP_in0.mp q2⟩)
  · exact Or.inr (Or.inr ⟨q1, fun z => q2 (CTP_in0.mpr z)⟩)
abbrev EX (σ : ST) (x : Nat) : Prop := EWk σ (PL σ) 0 ((2 ^ (PL σ).length - 1) &&& (x ^^^ 4294967295)) (fun _ => 0)
theorem EX_full (h8 : (PL σ).length ≤ 8) : EX σ (2 ^ (PL σ).length - 1) := by
  have pw : 2 ^ (PL σ).length ≤ 2 ^ 8 := pow_le h8
  have e : (2 ^ (PL σ).length - 1) &&& ((2 ^ (PL σ).length - 1) ^^^ 4294967295) = 0 := (sub0 (by omega)).mpr (fun e he h => h)
  unfold EX
  rw [e]
  refine ⟨fun _ => 0, fun _ _ => rfl, fun l hl => ?_, fun r => AGL_0 (fun l hl => ?_)⟩
  · obtain ⟨p, _, _, p3, _⟩ := hl
    simp at p3
  · rcases hl.1 with h | h
    · obtain ⟨q, q1, _⟩ := inA_k.mp h
      omega
    · obtain ⟨p, _, _, p3, _⟩ := h
      simp at p3
def IV (σ : ST) (k x : Nat) : Prop := ∀ y, y < 2 ^ (PL σ).length → EX σ y → k < pcn y 16 ∨ (k = pcn y 16 ∧ x ≤ y)
theorem c_fewest (w : σ 11 0 ≤ 12) (cp : CP σ (PL σ) g hj) (ss : SS1 σ (PL σ) 0 (fun _ => 0) g)
    (Kc : ∀ g', (∀ i, i < 33 ∨ i = 38 ∨ i = 40 ∨ 42 ≤ i → g' i = g i) → SS1 σ (PL σ) 0 (fun _ => 0) g' → Q (some (.int (nI (lfm σ (2 ^ σ 11 0))))) (HP g' hj)) : cwp X (d + 21) m_Ways_fewestLeftOut [.ref 19] (HP g hj) Q := by
  have hn := cp.2.1
  have pw : 2 ^ (PL σ).length ≤ 2 ^ 8 := pow_le hn
  have pw1 : 1 ≤ 2 ^ (PL σ).length := Nat.one_le_two_pow
  have inner : ∀ (k : Nat), k ≤ (PL σ).length → (∀ g1 v, (∀ i, i < 33 ∨ i = 38 ∨ i = 40 ∨ 42 ≤ i → g1 i = g i) → SS1 σ (PL σ) 0 (fun _ => 0) g1 → IV σ (k + 1) 0 → wp X (d + 21) m_Ways_fewestLeftOut 8 [.ref 19, .int (nI (2 ^ (PL σ).length - 1)), .int (nI (k + 1)), v] [] (HP g1 hj) Q) →
      ∀ (m x : Nat) (g1 : Nat → Nat → Int32), x + m = 2 ^ (PL σ).length → (∀ i, i < 33 ∨ i = 38 ∨ i = 40 ∨ 42 ≤ i → g1 i = g i) → SS1 σ (PL σ) 0 (fun _ => 0) g1 → IV σ k x → wp X (d + 21) m_Ways_fewestLeftOut 21 [.ref 19, .int (nI (2 ^ (PL σ).length - 1)), .int (nI k), .int (nI x)] [] (HP g1 hj) Q := by
    intro k hk out m
    induction m with
    | zero =>
      intro x g1 hx f1 s1 iv
      rw [s_Ways_fewestLeftOut_21]
      simp (disch := omega) only [↓s_Ways_fewestLeftOut_22, ↓s_Ways_fewestLeftOut_23, ↓s_Ways_fewestLeftOut_61, ↓s_Ways_fewestLeftOut_64, nI_leI, nI_ltI, nI_eq, N_z, nI_add, pk_sub, pk_mul, kL_i, kL_r, kL_d, kL_l, kL_k, kL_f, Option.toList_some, Option.toList_none, List.cons_append, List.nil_append, bI_z, N_and, N_or, N_shl, N_shr, Nat.one_mul, Nat.reduceAdd, lg_cmp_eq, L_and, L_or, bI_1, bI_0, if_true, if_false, reduceIte, N_m1x, ite_not]
      rw [if_pos (by omega)]
      refine out g1 _ f1 s1 (fun y hy he => ?_)
      have := iv y hy he
      omega
    | succ m ih =>
      intro x g1 hx f1 s1 iv
      have c1 := CP_cg cp (g2 := g1) (fun i _ _ => f1 i (by omega))
      have pc := pcn_le x 16
      have la : (2 ^ (PL σ).length - 1) &&& (x ^^^ 4294967295) ≤ 2 ^ (PL σ).length - 1 := Nat.and_le_left
      have go : ∀ g2, (∀ i, i < 33 ∨ i = 38 ∨ i = 40 ∨ 42 ≤ i → g2 i = g i) → SS1 σ (PL σ) 0 (fun _ => 0) g2 → ¬ (k = pcn x 16 ∧ EX σ x) → wp X (d + 21) m_Ways_fewestLeftOut 55 [.ref 19, .int (nI (2 ^ (PL σ).length - 1)), .int (nI k), .int (nI x)] [] (HP g2 hj) Q := by
        intro g2 f2 s2 hno
        simp (disch := omega) only [↓s_Ways_fewestLeftOut_55, ↓s_Ways_fewestLeftOut_58, nI_leI, nI_ltI, nI_eq, N_z, nI_add, pk_sub, pk_mul, kL_i, kL_r, kL_d, kL_l, kL_k, kL_f, Option.toList_some, Option.toList_none, List.cons_append, List.nil_append, bI_z, N_and, N_or, N_shl, N_shr, Nat.one_mul, Nat.reduceAdd, lg_cmp_eq, L_and, L_or, bI_1, bI_0, if_true, if_false, reduceIte, N_m1x, ite_not]
        refine ih (x + 1) g2 (by omega) f2 s2 (fun y hy he => ?_)
        rcases iv y hy he with h | ⟨h, h2⟩
        · exact Or.inl h
        · refine Or.inr ⟨h, ?_⟩
          by_cases e : y = x
          · subst e; exact absurd ⟨h, he⟩ hno
          · omega
      rw [s_Ways_fewestLeftOut_21]
      simp (disch := omega) only [↓s_Ways_fewestLeftOut_22, ↓s_Ways_fewestLeftOut_23, ↓s_Ways_fewestLeftOut_26, ↓s_Ways_fewestLeftOut_27, ↓s_Ways_fewestLeftOut_30, ↓s_Ways_fewestLeftOut_31, nI_leI, nI_ltI, nI_eq, N_z, nI_add, pk_sub, pk_mul, kL_i, kL_r, kL_d, kL_l, kL_k, kL_f, Option.toList_some, Option.toList_none, List.cons_append, List.nil_append, bI_z, N_and, N_or, N_shl, N_shr, Nat.one_mul, Nat.reduceAdd, lg_cmp_eq, L_and, L_or, bI_1, bI_0, if_true, if_false, reduceIte, N_m1x, ite_not, c_JI_bitCount]
      rw [if_neg (by omega)]
      by_cases hp : pcn x 16 = k
      case neg =>
        first | rw [if_neg hp] | rw [if_pos hp]
        exact go g1 f1 s1 (fun z => hp z.1.symm)
      first | rw [if_pos hp] | rw [if_neg (fun z => z hp)]
      simp (disch := omega) only [↓s_Ways_fewestLeftOut_34, ↓s_Ways_fewestLeftOut_35, ↓s_Ways_fewestLeftOut_38, ↓s_Ways_fewestLeftOut_39, ↓s_Ways_fewestLeftOut_40, ↓s_Ways_fewestLeftOut_41, ↓s_Ways_fewestLeftOut_42, ↓s_Ways_fewestLeftOut_43, nI_leI, nI_ltI, nI_eq, N_z, nI_add, pk_sub, pk_mul, kL_i, kL_r, kL_d, kL_l, kL_k, kL_f, Option.toList_some, Option.toList_none, List.cons_append, List.nil_append, bI_z, N_and, N_or, N_shl, N_shr, Nat.one_mul, Nat.reduceAdd, lg_cmp_eq, L_and, L_or, bI_1, bI_0, if_true, if_false, reduceIte, N_m1x, ite_not]
      refine c_canAllFollow (d := d) ⟨by omega, fun p hp => by omega⟩ (by omega) c1 s1 (fun g2 f2 s2 => ?_)
      have fr : ∀ i, i < 33 ∨ i = 38 ∨ i = 40 ∨ 42 ≤ i → g2 i = g i := fun i hi => by rw [f2 i hi, f1 i hi]
      have c2 := CP_cg cp (g2 := g2) (fun i _ _ => fr i (by omega))
      simp (disch := omega) only [↓s_Ways_fewestLeftOut_46, nI_leI, nI_ltI, nI_eq, N_z, nI_add, pk_sub, pk_mul, kL_i, kL_r, kL_d, kL_l, kL_k, kL_f, Option.toList_some, Option.toList_none, List.cons_append, List.nil_append, bI_z, N_and, N_or, N_shl, N_shr, Nat.one_mul, Nat.reduceAdd, lg_cmp_eq, L_and, L_or, bI_1, bI_0, if_true, if_false, reduceIte, N_m1x, ite_not]
      by_cases he : cl (EX σ x) = true
      · rw [if_pos he]
        rw [show d + 21 = (d + 20) + 1 by omega]
        simp (disch := omega) only [↓s_Ways_fewestLeftOut_49, ↓s_Ways_fewestLeftOut_50, ↓s_Ways_fewestLeftOut_51, ↓s_Ways_fewestLeftOut_54, nI_leI, nI_ltI, nI_eq, N_z, nI_add, pk_sub, pk_mul, kL_i, kL_r, kL_d, kL_l, kL_k, kL_f, Option.toList_some, Option.toList_none, List.cons_append, List.nil_append, bI_z, N_and, N_or, N_shl, N_shr, Nat.one_mul, Nat.reduceAdd, lg_cmp_eq, L_and, L_or, bI_1, bI_0, if_true, if_false, reduceIte, N_m1x, ite_not, c_lumpsAt c2.1 w hn (show x < 2 ^ (PL σ).length by omega)]
        have := LO_x w hn (show x < 2 ^ (PL σ).length by omega) (cl_t.mp he) (fun y hy ey => by
          rw [hp]
          exact iv y hy ey)
        rw [this]
        exact Kc g2 fr s2
      · rw [if_neg he]
        exact go g2 fr s2 (fun z => he (cl_t.mpr z.2))
  have outer : ∀ (m k : Nat) (v : Value) (g1 : Nat → Nat → Int32), k + m = (PL σ).length + 1 → (∀ i, i < 33 ∨ i = 38 ∨ i = 40 ∨ 42 ≤ i → g1 i = g i) → SS1 σ (PL σ) 0 (fun _ => 0) g1 → IV σ k 0 → wp X (d + 21) m_Ways_fewestLeftOut 8 [.ref 19, .int (nI (2 ^ (PL σ).length - 1)), .int (nI k), v] [] (HP g1 hj) Q := by
    intro m
    induction m with
    | zero =>
      intro k v g1 hk f1 s1 iv
      have h1 := iv _ (by omega) (EX_full hn)
      have h2 := pcn_bd (show 2 ^ (PL σ).length - 1 < 2 ^ (PL σ).length by omega) 16
      omega
    | succ m ih =>
      intro k v g1 hk f1 s1 iv
      have c1 := CP_cg cp (g2 := g1) (fun i _ _ => f1 i (by omega))
      have e0 := c1.1.1
      rw [s_Ways_fewestLeftOut_8]
      simp (disch := omega) only [↓s_Ways_fewestLeftOut_9, ↓s_Ways_fewestLeftOut_10, ↓s_Ways_fewestLeftOut_13, ↓s_Ways_fewestLeftOut_16, ↓s_Ways_fewestLeftOut_19, ↓s_Ways_fewestLeftOut_20, nI_leI, nI_ltI, nI_eq, N_z, nI_add, pk_sub, pk_mul, kL_i, kL_r, kL_d, kL_l, kL_k, kL_f, Option.toList_some, Option.toList_none, List.cons_append, List.nil_append, bI_z, N_and, N_or, N_shl, N_shr, Nat.one_mul, Nat.reduceAdd, lg_cmp_eq, L_and, L_or, bI_1, bI_0, if_true, if_false, reduceIte, N_m1x, ite_not, e0]
      rw [if_neg (by omega)]
      exact inner k (by omega) (fun g2 v2 f2 s2 iv2 => ih (k + 1) v2 g2 (by omega) f2 s2 iv2) (2 ^ (PL σ).length) 0 g1 (by omega) f1 s1 iv
  have e0 := cp.1.1
  simp (disch := omega) only [e_Ways_fewestLeftOut, ↓s_Ways_fewestLeftOut_0, ↓s_Ways_fewestLeftOut_1, ↓s_Ways_fewestLeftOut_2, ↓s_Ways_fewestLeftOut_5, ↓s_Ways_fewestLeftOut_6, ↓s_Ways_fewestLeftOut_7, e_Ways_placesFrom, ↓s_Ways_placesFrom_0, ↓s_Ways_placesFrom_1, ↓s_Ways_placesFrom_2, ↓s_Ways_placesFrom_5, ↓s_Ways_placesFrom_8, ↓s_Ways_placesFrom_9, ↓s_Ways_placesFrom_10, ↓s_Ways_placesFrom_11, ↓s_Ways_placesFrom_12, ↓s_Ways_placesFrom_13, nI_leI, nI_ltI, nI_eq, N_z, nI_add, pk_sub, pk_mul, kL_i, kL_r, kL_d, kL_l, kL_k, kL_f, Option.toList_some, Option.toList_none, List.cons_append, List.nil_append, bI_z, N_and, N_or, N_shl, N_shr, Nat.one_mul, Nat.reduceAdd, lg_cmp_eq, L_and, L_or, bI_1, bI_0, if_true, if_false, reduceIte, N_m1x, ite_not, e0, Nat.pow_zero]
  exact outer ((PL σ).length + 1) 0 _ g (by omega) (fun _ _ => rfl) ss (fun y hy _ => by omega)
theorem p_C_leftOut (c : CR t n σ τ g hj) (K : KC g hj Q (t, n, σ, τ, aLeft σ)) : cwp X (d + 33) m_C_leftOut [.ref 0] (HP g hj) Q := by
  have w := c.2.1.1.2.2.2.1.1
  simp only [e_C_leftOut, ↓s_C_leftOut_0, ↓s_C_leftOut_1, ↓s_C_leftOut_4]
  refine c_refusal c (fun g' hj' c' e1 e2 => ?_)
  unfold rf
  simp (disch := omega) only [↓s_C_leftOut_7, ↓s_C_leftOut_9, ↓s_C_leftOut_12, ↓s_C_leftOut_14, ↓s_C_leftOut_24, Option.toList_some, List.cons_append, List.nil_append, ite_not]
  by_cases h8 : 8 < (PL σ).length
  · have := K g' hj' c'.1 e1 e2
    change Q (some (.int (aLeft σ))) (HP g' hj') at this
    unfold aLeft at this
    rw [if_pos h8] at this
    rw [if_pos h8, if_pos rfl]
    exact this
  · rw [if_neg h8]
    rw [if_neg (by split; decide; decide)]
    obtain ⟨e10, f⟩ := c'.2 (by omega)
    have ge := c'.1.2.2.1.1
    simp only [↓s_C_leftOut_17, ↓s_C_leftOut_18, ↓s_C_leftOut_21]
    rw [show d + 32 = (d + 11) + 21 by omega]
    refine c_fewest w ⟨f.2.1, f.1, pl_nd _, fun l hl => (PL_mem.mp hl).1, c.2.1.1⟩ (FR_SS ge f) (fun g2 f2 s2 => ?_)
    obtain ⟨ge2, fr2⟩ := SS_FR f f2 s2
    simp (disch := omega) only [↓s_C_leftOut_24, nI_leI, nI_ltI, nI_eq, N_z, nI_add, pk_sub, pk_mul, kL_i, kL_r, kL_d, kL_l, kL_k, kL_f, Option.toList_some, Option.toList_none, List.cons_append, List.nil_append, bI_z, N_and, N_or, N_shl, N_shr, Nat.one_mul, Nat.reduceAdd, lg_cmp_eq, L_and, L_or, bI_1, bI_0, if_true, if_false, reduceIte, N_m1x, ite_not]
    have cc := c'.1
    have := K g2 hj' ⟨rdL_cg cc.1 (by rw [f2 1 (by omega)]) (f2 2 (by omega)), C0_cg cc.2.1 (fun k _ _ => f2 k (by omega)) rfl, ⟨ge2, Or.inr ⟨by rw [f2 19 (by omega)]; exact e10, fr2⟩⟩, CG_cg cc.2.2.2.1 (fun k _ _ => f2 k (by omega)), CS_cg cc.2.2.2.2 (fun k _ _ => f2 k (by omega))⟩ (fun k hk => (f2 k (by omega)).trans (e1 k hk)) e2
    change Q (some (.int (aLeft σ))) (HP g2 hj') at this
    unfold aLeft at this
    rw [if_neg h8] at this
    exact this
end CLEFT2
