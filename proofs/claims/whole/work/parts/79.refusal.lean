/-! begin, refusal -/
def CFr (t : Nat → Nat) (n : Nat) (σ τ : ST) (g : Nat → Nat → Int32) (hj : Nat → Nat → Int64) : Prop := CR t n σ τ g hj ∧ ((PL σ).length ≤ 8 → g 19 10 = nI 1 ∧ FR σ g hj)
abbrev KCr (g : Nat → Nat → Int32) (hj : Nat → Nat → Int64) (Q : Option Value → AH → Prop) (t : Nat → Nat) (n : Nat) (σ τ : ST) (v : Int32) : Prop := ∀ g' hj', CFr t n σ τ g' hj' → (∀ k, 51 ≤ k → g' k = g k) → (∀ k, 51 ≤ k → hj' k = hj k) → Q (some (.int v)) (HP g' hj')
section REFU
variable {X : AX} {d : Nat} {Q : Option Value → AH → Prop} {g : Nat → Nat → Int32} {hj : Nat → Nat → Int64} {σ τ : ST} {t : Nat → Nat} {n : Nat}
theorem len_as (w : σ 18 0 < 2 ^ σ 11 0) : ∀ m, pcn (σ 18 0) m + (pl σ m).length = m
  | 0 => rfl
  | m + 1 => by
    have := len_as w m
    unfold pcn pl
    rw [dm_tb]
    by_cases h : (σ 18 0).testBit m = true
    · rw [if_pos h, if_pos h]; omega
    · rw [if_neg h, if_neg h, List.length_append]; simp; omega
theorem c_areTooMany (c : C0 σ g hj) : cwp X (d + 1) m_Lumps_areTooMany [.ref 10] (HP g hj) Q = Q (some (.int (bI (8 < (PL σ).length)))) (HP g hj) := by
  have w := c.1.2.2.2.1.1
  have w2 := c.1.2.2.2.2.1
  have w3 : 2 ^ σ 11 0 ≤ 2 ^ 12 := pow_le w
  have e0 := c.2.2.2.1
  have e1 := c.2.2.2.2.1
  have h := len_as w2 (σ 11 0)
  have h2 := pcn_up w2 (16 - σ 11 0)
  rw [show σ 11 0 + (16 - σ 11 0) = 16 by omega] at h2
  change pcn (σ 18 0) (σ 11 0) + (PL σ).length = σ 11 0 at h
  have h3 := pcn_le (σ 18 0) (σ 11 0)
  simp (disch := omega) only [e_Lumps_areTooMany, ↓s_Lumps_areTooMany_0, ↓s_Lumps_areTooMany_1, ↓s_Lumps_areTooMany_4, ↓s_Lumps_areTooMany_5, ↓s_Lumps_areTooMany_8, ↓s_Lumps_areTooMany_11, ↓s_Lumps_areTooMany_12, ↓s_Lumps_areTooMany_14, ↓s_Lumps_areTooMany_17, ↓s_Lumps_areTooMany_18, ↓s_Lumps_areTooMany_21, ↓s_Lumps_areTooMany_22_0, ↓s_Lumps_areTooMany_22_1, ↓s_Lumps_areTooMany_22_b, nI_leI, nI_ltI, nI_eq, N_z, nI_add, pk_sub, pk_mul, kL_i, kL_r, kL_d, kL_l, kL_k, kL_f, Option.toList_some, Option.toList_none, List.cons_append, List.nil_append, bI_z, N_and, N_or, N_shl, N_shr, Nat.one_mul, Nat.reduceAdd, lg_cmp_eq, L_and, L_or, bI_1, bI_0, if_true, if_false, reduceIte, N_m1x, ite_not, e0, e1, c_JI_bitCount, h2]
  by_cases h8 : 8 < (PL σ).length
  · rw [if_neg (by omega), bI_t h8]
  · rw [if_pos (by omega), bI_f h8]
theorem bts_f {f : Nat → Bool} (h : ∀ p, f p = false) : ∀ m, bts f m = 0
  | 0 => rfl
  | m + 1 => by unfold bts; rw [bts_f h m, h m]; simp
theorem GI_0 {Ls : List Nat} {j : Nat → Nat} : GI σ Ls (2 ^ 0 - 1) j g ↔ (∀ r, r < 6 → g 34 r = nI 0) ∧ ∀ q, q < 8 → g 35 q = nI 0 ∧ g 36 q = nI 0 := by
  have z : (2 ^ 0 - 1 : Nat) = 0 := rfl
  have m0 : ∀ r, bts (mbr σ Ls j 0 r) 8 = 0 := fun r => bts_f (fun p => by unfold mbr; simp) 8
  rw [z]
  unfold GI
  constructor
  · rintro ⟨_, h2, _, h4⟩
    refine ⟨fun r hr => by rw [h2 r hr, m0], fun q hq => ?_⟩
    obtain ⟨z1, z2⟩ := h4 q hq
    rw [z1, z2, bts_f (fun p => by simp) 8, bts_f (fun p => by simp) 8]
    exact ⟨rfl, rfl⟩
  · rintro ⟨h2, h4⟩
    refine ⟨Nat.two_pow_pos _, fun r hr => by rw [h2 r hr, m0], fun q hq => by simp at hq, fun q hq => ?_⟩
    obtain ⟨z1, z2⟩ := h4 q hq
    rw [z1, z2, bts_f (fun p => by simp) 8, bts_f (fun p => by simp) 8]
    exact ⟨rfl, rfl⟩
def Frb (g0 g : Nat → Nat → Int32) : Prop := (∀ i, i < 19 ∨ (24 ≤ i ∧ i ≤ 38) ∨ 41 ≤ i → g i = g0 i) ∧ ∀ i, i ≠ 8 → i ≠ 9 → g 19 i = g0 19 i
theorem l_begin1 {v1 : Value} {g0 : Nat → Nat → Int32} (c : C0 σ g0 hj) (Kc : ∀ g v1, Frb g0 g → g 19 = g0 19 → (∀ r, r < σ 2 0 → g 20 r = nI (stone σ r)) → (∀ r, r < 6 → g 40 r = nI 0 ∧ ∀ x, x < 256 → g 39 (r * 512 + x) = nI 0) → wp X (d + 2) m_Ways_begin 65 [.ref 19, v1] [] (HP g hj) Q) :
    ∀ (m r : Nat) (g : Nat → Nat → Int32), r + m = 6 → Frb g0 g → g 19 = g0 19 → (∀ q, q < r → q < σ 2 0 → g 20 q = nI (stone σ q)) → (∀ q, q < r → g 40 q = nI 0 ∧ ∀ x, x < 256 → g 39 (q * 512 + x) = nI 0) → wp X (d + 2) m_Ways_begin 9 [.ref 19, .int (nI r)] [] (HP g hj) Q
  | 0, r, g, hr, e1, e2, e3, e4 => by
    have : r = 6 := by omega
    subst this
    have w2 := c.1.2.1.1
    rw [s_Ways_begin_9]
    simp (disch := omega) only [↓s_Ways_begin_10, ↓s_Ways_begin_12, nI_leI, nI_ltI, nI_eq, N_z, nI_add, pk_sub, pk_mul, kL_i, kL_r, kL_d, kL_l, kL_k, kL_f, Option.toList_some, Option.toList_none, List.cons_append, List.nil_append, bI_z, N_and, N_or, N_shl, N_shr, Nat.one_mul, Nat.reduceAdd, lg_cmp_eq, L_and, L_or, bI_1, bI_0, if_true, if_false, reduceIte, N_m1x, ite_not, Nat.le_refl]
    exact Kc g _ e1 e2 (fun q hq => e3 q (by omega) hq) e4
  | m + 1, r, g, hr, e1, e2, e3, e4 => by
    have w2 := c.1.2.1.1
    rw [s_Ways_begin_9]
    simp (disch := omega) only [↓s_Ways_begin_10, ↓s_Ways_begin_12, ↓s_Ways_begin_15, ↓s_Ways_begin_16, ↓s_Ways_begin_19, ↓s_Ways_begin_20, ↓s_Ways_begin_21, nI_leI, nI_ltI, nI_eq, N_z, nI_add, pk_sub, pk_mul, kL_i, kL_r, kL_d, kL_l, kL_k, kL_f, Option.toList_some, Option.toList_none, List.cons_append, List.nil_append, bI_z, N_and, N_or, N_shl, N_shr, Nat.one_mul, Nat.reduceAdd, lg_cmp_eq, L_and, L_or, bI_1, bI_0, if_true, if_false, reduceIte, N_m1x, ite_not]
    rw [if_neg (by omega)]
    refine c_change (c := 0) (F := r * 512) (by simp) (by omega) (by omega) (fun g2 a1 a2 a3 a4 a5 => ?_)
    have fr2 : Frb g0 g2 := ⟨fun i hi => by rw [a1 i (by omega) (by omega)]; exact e1.1 i hi, fun i i1 i2 => by rw [a1 19 (by omega) (by omega)]; exact e1.2 i i1 i2⟩
    have c2 : C0 σ g2 hj := C0_cg c (fun k _ _ => fr2.1 k (by omega)) rfl
    have er : g2 3 3 = nI (σ 2 0) := c2.2.1.1
    have fin : ∀ v, (r < σ 2 0 → v = nI (stone σ r)) → wp X (d + 2) m_Ways_begin 58 [.ref 19, .int (nI r)] [.int v, .int (nI r), .ref 20] (HP g2 hj) Q := by
      intro v hv
      simp (disch := omega) only [↓s_Ways_begin_58, ↓s_Ways_begin_59, ↓s_Ways_begin_62, nI_leI, nI_ltI, nI_eq, N_z, nI_add, pk_sub, pk_mul, kL_i, kL_r, kL_d, kL_l, kL_k, kL_f, Option.toList_some, Option.toList_none, List.cons_append, List.nil_append, bI_z, N_and, N_or, N_shl, N_shr, Nat.one_mul, Nat.reduceAdd, lg_cmp_eq, L_and, L_or, bI_1, bI_0, if_true, if_false, reduceIte, N_m1x, ite_not]
      refine l_begin1 (v1 := v1) c Kc m (r + 1) _ (by omega) ⟨fun i hi => by rw [u2_r _ _ _ (by omega)]; exact fr2.1 i hi, fun i i1 i2 => by rw [u2_r _ _ _ (by omega)]; exact fr2.2 i i1 i2⟩ (by rw [u2_r _ _ _ (by omega), a1 19 (by omega) (by omega), e2]) (fun q hq hq2 => ?_) (fun q hq => ?_)
      · by_cases e : q = r
        · subst e; rw [u2_s, hv hq2]
        · rw [u2_m _ _ _ _ e, a1 20 (by omega) (by omega)]; exact e3 q (by omega) hq2
      · rw [u2_r _ _ _ (by omega), u2_r _ _ _ (by omega)]
        by_cases e : q = r
        · subst e
          exact ⟨a2, fun x hx => a4 x hx⟩
        · rw [a3 q e]
          refine ⟨(e4 q (by omega)).1, fun x hx => ?_⟩
          rw [a5 _ (by show q * 512 + x < r * 512 ∨ r * 512 + 256 ≤ q * 512 + x; omega)]
          exact (e4 q (by omega)).2 x hx
    simp (disch := omega) only [↓s_Ways_begin_24, ↓s_Ways_begin_25, ↓s_Ways_begin_28, ↓s_Ways_begin_29, ↓s_Ways_begin_30, ↓s_Ways_begin_31, ↓s_Ways_begin_34, ↓s_Ways_begin_37, ↓s_Ways_begin_40, nI_leI, nI_ltI, nI_eq, N_z, nI_add, pk_sub, pk_mul, kL_i, kL_r, kL_d, kL_l, kL_k, kL_f, Option.toList_some, Option.toList_none, List.cons_append, List.nil_append, bI_z, N_and, N_or, N_shl, N_shr, Nat.one_mul, Nat.reduceAdd, lg_cmp_eq, L_and, L_or, bI_1, bI_0, if_true, if_false, reduceIte, N_m1x, ite_not, er]
    by_cases h1 : σ 2 0 ≤ r
    · rw [if_pos h1]
      simp (disch := omega) only [↓s_Ways_begin_57]
      exact fin _ (fun z => by omega)
    · rw [if_neg h1]
      simp (disch := omega) only [↓s_Ways_begin_43, ↓s_Ways_begin_44, ↓s_Ways_begin_47, ↓s_Ways_begin_50, ↓s_Ways_begin_51, ↓s_Ways_begin_54, nI_leI, nI_ltI, nI_eq, N_z, nI_add, pk_sub, pk_mul, kL_i, kL_r, kL_d, kL_l, kL_k, kL_f, Option.toList_some, Option.toList_none, List.cons_append, List.nil_append, bI_z, N_and, N_or, N_shl, N_shr, Nat.one_mul, Nat.reduceAdd, lg_cmp_eq, L_and, L_or, bI_1, bI_0, if_true, if_false, reduceIte, N_m1x, ite_not, c_Rings_stoneOf c2.1 c2.2.1]
      exact fin _ (fun _ => rfl)
theorem l_begin2 {v1 : Value} {g0 : Nat → Nat → Int32} (Kc : ∀ g, (∀ i, i ≠ 21 → i ≠ 22 → i ≠ 23 → g i = g0 i) → (∀ l, l < 12 → g 21 l = -1 ∧ g 22 l = -1 ∧ g 23 l = nI 0) → wp X (d + 2) m_Ways_begin 100 [.ref 19, .int (nI 12)] [] (HP g hj) Q) :
    ∀ (m l : Nat) (g : Nat → Nat → Int32), l + m = 12 → (∀ i, i ≠ 21 → i ≠ 22 → i ≠ 23 → g i = g0 i) → (∀ x, x < l → g 21 x = -1 ∧ g 22 x = -1 ∧ g 23 x = nI 0) → wp X (d + 2) m_Ways_begin 67 [.ref 19, .int (nI l)] [] (HP g hj) Q
  | 0, l, g, hl, e1, e2 => by
    have : l = 12 := by omega
    subst this
    rw [s_Ways_begin_67]
    simp (disch := omega) only [↓s_Ways_begin_68, ↓s_Ways_begin_70, nI_leI, nI_ltI, nI_eq, N_z, nI_add, pk_sub, pk_mul, kL_i, kL_r, kL_d, kL_l, kL_k, kL_f, Option.toList_some, Option.toList_none, List.cons_append, List.nil_append, bI_z, N_and, N_or, N_shl, N_shr, Nat.one_mul, Nat.reduceAdd, lg_cmp_eq, L_and, L_or, bI_1, bI_0, if_true, if_false, reduceIte, N_m1x, ite_not, Nat.le_refl]
    exact Kc g e1 e2
  | m + 1, l, g, hl, e1, e2 => by
    rw [s_Ways_begin_67]
    simp (disch := omega) only [↓s_Ways_begin_68, ↓s_Ways_begin_70, ↓s_Ways_begin_73, ↓s_Ways_begin_74, ↓s_Ways_begin_77, ↓s_Ways_begin_78, ↓s_Ways_begin_79, ↓s_Ways_begin_80, ↓s_Ways_begin_81, ↓s_Ways_begin_84, ↓s_Ways_begin_85, ↓s_Ways_begin_86, ↓s_Ways_begin_87, ↓s_Ways_begin_88, ↓s_Ways_begin_91, ↓s_Ways_begin_92, ↓s_Ways_begin_93, ↓s_Ways_begin_94, ↓s_Ways_begin_97, nI_leI, nI_ltI, nI_eq, N_z, nI_add, pk_sub, pk_mul, kL_i, kL_r, kL_d, kL_l, kL_k, kL_f, Option.toList_some, Option.toList_none, List.cons_append, List.nil_append, bI_z, N_and, N_or, N_shl, N_shr, Nat.one_mul, Nat.reduceAdd, lg_cmp_eq, L_and, L_or, bI_1, bI_0, if_true, if_false, reduceIte, N_m1x, ite_not]
    rw [if_neg (by omega)]
    refine l_begin2 (v1 := v1) Kc m (l + 1) _ (by omega) (fun i i1 i2 i3 => ?_) (fun x hx => ?_)
    · rw [u2_r _ _ _ i3, u2_r _ _ _ i2, u2_r _ _ _ i1]; exact e1 i i1 i2 i3
    · by_cases e : x = l
      · subst e
        simp (disch := omega) only [u2_s, u2_n, u2_m]
        exact ⟨trivial, trivial, trivial⟩
      · simp (disch := omega) only [u2_s, u2_n, u2_m]
        exact e2 x (by omega)
theorem c_begin (c : C0 σ g hj) (ge : GE g) (h8 : (PL σ).length ≤ 8) (Kc : ∀ g' hj', (∀ i, i < 19 ∨ (32 ≤ i ∧ i ≤ 38) ∨ 41 ≤ i → g' i = g i) → g' 19 10 = g 19 10 → (∀ k, k ≠ 31 → hj' k = hj k) → CP σ (PL σ) g' hj' → SS1 σ (PL σ) 0 (fun _ => 0) g' → TC σ [] g' → RO σ [] 0 g' → (∀ l, l < 12 → g' 23 l = nI 0) → (∀ r, r < σ 2 0 → g' 20 r = nI (stone σ r)) → Q none (HP g' hj')) : cwp X (d + 5) m_Ways_begin [.ref 19] (HP g hj) Q := by
  have w1 := c.1.2.2.2.1.1
  simp only [e_Ways_begin, ↓s_Ways_begin_0, ↓s_Ways_begin_1, ↓s_Ways_begin_4]
  refine c_gather c h8 (fun g1 hj1 f1 ch => ?_)
  have c1 := Fr24_C0 c f1
  simp (disch := omega) only [↓s_Ways_begin_7, ↓s_Ways_begin_8, nI_leI, nI_ltI, nI_eq, N_z, nI_add, pk_sub, pk_mul, kL_i, kL_r, kL_d, kL_l, kL_k, kL_f, Option.toList_some, Option.toList_none, List.cons_append, List.nil_append, bI_z, N_and, N_or, N_shl, N_shr, Nat.one_mul, Nat.reduceAdd, lg_cmp_eq, L_and, L_or, bI_1, bI_0, if_true, if_false, reduceIte, N_m1x, ite_not]
  rw [show d + 5 = (d + 3) + 2 by omega]
  refine l_begin1 (v1 := DUM) (g0 := g1) c1 (fun g2 v1 a1 a2 a3 a4 => ?_) 6 0 g1 rfl ⟨fun _ _ => rfl, fun _ _ _ => rfl⟩ rfl (fun q hq => by omega) (fun q hq => by omega)
  simp (disch := omega) only [↓s_Ways_begin_65, ↓s_Ways_begin_66, kL_r]
  refine l_begin2 (v1 := DUM) (g0 := g2) (fun g3 b1 b2 => ?_) 12 0 g2 rfl (fun _ _ _ _ => rfl) (fun x hx => by omega)
  simp (disch := omega) only [↓s_Ways_begin_100, ↓s_Ways_begin_101, ↓s_Ways_begin_102, ↓s_Ways_begin_105, ↓s_Ways_begin_106, ↓s_Ways_begin_108, ↓s_Ways_begin_111, nI_leI, nI_ltI, nI_eq, N_z, nI_add, pk_sub, pk_mul, kL_i, kL_r, kL_d, kL_l, kL_k, kL_f, Option.toList_some, Option.toList_none, List.cons_append, List.nil_append, bI_z, N_and, N_or, N_shl, N_shr, Nat.one_mul, Nat.reduceAdd, lg_cmp_eq, L_and, L_or, bI_1, bI_0, if_true, if_false, reduceIte, N_m1x, ite_not]
  have fr : ∀ i, i < 19 ∨ (24 ≤ i ∧ i ≤ 38) ∨ 41 ≤ i → up2 (up2 g3 19 8 (nI 0)) 19 9 (nI 7) i = g1 i := fun i hi => by
    simp (disch := omega) only [u2_r]
    rw [b1 i (by omega) (by omega) (by omega)]
    exact a1.1 i hi
  have f20 : ∀ i, i = 20 ∨ i = 39 ∨ i = 40 → up2 (up2 g3 19 8 (nI 0)) 19 9 (nI 7) i = g2 i := fun i hi => by
    simp (disch := omega) only [u2_r]
    exact b1 i (by omega) (by omega) (by omega)
  have f21 : ∀ i, i = 21 ∨ i = 22 ∨ i = 23 → up2 (up2 g3 19 8 (nI 0)) 19 9 (nI 7) i = g3 i := fun i hi => by
    simp (disch := omega) only [u2_r]
  have ge1 : GE g1 := GE_cg ge (fun k _ _ => f1.1 k (by omega))
  have cp : CP σ (PL σ) (up2 (up2 g3 19 8 (nI 0)) 19 9 (nI 7)) hj1 := ⟨rdCh_cg ch (fun k _ _ => fr k (by omega)) rfl, h8, pl_nd _, fun l hl => (PL_mem.mp hl).1, c.1⟩
  refine Kc _ hj1 (fun i hi => by rw [fr i (by omega)]; exact f1.1 i (by omega)) ?_ f1.2 cp ⟨?_, ⟨fun r hr => ⟨0, Nat.le_refl _, ?_, Or.inl rfl, fun q q1 q2 => by omega⟩, fun r hr c0 hc0 hl x hx => ?_⟩, ?_, fun r hr => ?_⟩ ⟨?_, ?_, fun h => absurd rfl h, fun l l1 l2 => ?_⟩ (fun p p1 p2 => ?_) (fun l hl => ?_) (fun r hr => ?_)
  · simp (disch := omega) only [u2_s, u2_n, u2_m]
    rw [b1 19 (by omega) (by omega) (by omega), a2, f1.1 19 (by omega)]
  · rw [GI_0, fr 34 (by omega), fr 35 (by omega), fr 36 (by omega)]
    exact ⟨fun r hr => (ge1.1 r hr).1, ge1.2⟩
  · rw [f20 40 (by omega)]; exact (a4 r hr).1
  · have : c0 = 0 := by omega
    subst this
    refine Or.inl ?_
    rw [f20 39 (by omega)]
    have h1 := (a4 r hr).2 x hx
    simp only [Nat.pow_zero, Nat.div_one, Nat.sub_self, Nat.add_zero]
    exact h1
  · rw [fr 41 (by omega)]
    exact fun r hr => (ge1.1 r hr).2
  · refine AGM_A.mpr (AGL_0 (fun l hl => ?_))
    obtain ⟨q, q1, _⟩ := inA_k.mp hl.1
    omega
  · simp (disch := omega) only [u2_s, u2_n, u2_m]; rfl
  · rw [u2_s]; rfl
  · rw [f21 21 (by omega), f21 22 (by omega)]
    exact ⟨(b2 l l1).1, (b2 l l1).2.1⟩
  · rw [f21 23 (by omega)]
    have := (PL_mem.mp (gD_mem p2)).1
    rw [(b2 _ (by omega)).2.2]
    rfl
  · rw [f21 23 (by omega)]; exact (b2 l hl).2.2
  · rw [f20 20 (by omega)]; exact a3 r hr
theorem c_refusal (c : CR t n σ τ g hj) (K : KCr g hj Q t n σ τ (rf σ)) : cwp X (d + 32) m_Ways_refusal [.ref 19] (HP g hj) Q := by
  have w1 := c.2.1.1.2.2.2.1.1
  have wl := wyl_len σ
  have fin : ∀ g' hj', CR t n σ τ g' hj' → (∀ k, 51 ≤ k → g' k = g k) → (∀ k, 51 ≤ k → hj' k = hj k) → (PL σ).length ≤ 8 → g' 19 10 = nI 1 → FR σ g' hj' → wp X (d + 32) m_Ways_refusal 53 [.ref 19] [] (HP g' hj') Q := by
    intro g' hj' c' f1 f2 h8 e10 fr
    have := K g' hj' ⟨c', fun _ => ⟨e10, fr⟩⟩ f1 f2
    have e8 := fr.2.2.2.1
    unfold rf at this
    rw [if_neg (by omega)] at this
    simp (disch := omega) only [↓s_Ways_refusal_53, ↓s_Ways_refusal_54, ↓s_Ways_refusal_57, ↓s_Ways_refusal_60, ↓s_Ways_refusal_62, ↓s_Ways_refusal_65, ↓s_Ways_refusal_66, nI_leI, nI_ltI, nI_eq, N_z, nI_add, pk_sub, pk_mul, kL_i, kL_r, kL_d, kL_l, kL_k, kL_f, Option.toList_some, Option.toList_none, List.cons_append, List.nil_append, bI_z, N_and, N_or, N_shl, N_shr, Nat.one_mul, Nat.reduceAdd, lg_cmp_eq, L_and, L_or, bI_1, bI_0, if_true, if_false, reduceIte, N_m1x, ite_not, e8]
    by_cases h0 : (wyl σ).length = 0
    · rw [if_pos h0] at this ⊢
      exact this
    · rw [if_neg h0] at this ⊢
      exact this
  simp (disch := omega) only [e_Ways_refusal, ↓s_Ways_refusal_0, ↓s_Ways_refusal_1, ↓s_Ways_refusal_4, ↓s_Ways_refusal_7, ↓s_Ways_refusal_10, ↓s_Ways_refusal_13, ↓s_Ways_refusal_15, nI_leI, nI_ltI, nI_eq, N_z, nI_add, pk_sub, pk_mul, kL_i, kL_r, kL_d, kL_l, kL_k, kL_f, Option.toList_some, Option.toList_none, List.cons_append, List.nil_append, bI_z, N_and, N_or, N_shl, N_shr, Nat.one_mul, Nat.reduceAdd, lg_cmp_eq, L_and, L_or, bI_1, bI_0, if_true, if_false, reduceIte, N_m1x, ite_not, c_areTooMany c.2.1]
  by_cases h8 : 8 < (PL σ).length
  · rw [if_pos h8]
    have := K g hj ⟨c, fun z => by omega⟩ (fun _ _ => rfl) (fun _ _ => rfl)
    unfold rf at this
    rw [if_pos h8] at this
    exact this
  rw [if_neg h8]
  obtain ⟨ge, hfr⟩ := c.2.2.1
  rcases hfr with hz | ⟨hz, hf⟩
  case inr =>
    simp (disch := omega) only [↓s_Ways_refusal_16, ↓s_Ways_refusal_17, ↓s_Ways_refusal_20, nI_leI, nI_ltI, nI_eq, N_z, nI_add, pk_sub, pk_mul, kL_i, kL_r, kL_d, kL_l, kL_k, kL_f, Option.toList_some, Option.toList_none, List.cons_append, List.nil_append, bI_z, N_and, N_or, N_shl, N_shr, Nat.one_mul, Nat.reduceAdd, lg_cmp_eq, L_and, L_or, bI_1, bI_0, if_true, if_false, reduceIte, N_m1x, ite_not, Nat.one_ne_zero, Nat.zero_ne_one, eq_self, not_true_eq_false, not_false_eq_true, hz]
    exact fin g hj c (fun _ _ => rfl) (fun _ _ => rfl) (by omega) hz hf
  simp (disch := omega) only [↓s_Ways_refusal_16, ↓s_Ways_refusal_17, ↓s_Ways_refusal_20, ↓s_Ways_refusal_23, ↓s_Ways_refusal_24, ↓s_Ways_refusal_25_0, ↓s_Ways_refusal_25_1, ↓s_Ways_refusal_28, ↓s_Ways_refusal_29, nI_leI, nI_ltI, nI_eq, N_z, nI_add, pk_sub, pk_mul, kL_i, kL_r, kL_d, kL_l, kL_k, kL_f, Option.toList_some, Option.toList_none, List.cons_append, List.nil_append, bI_z, N_and, N_or, N_shl, N_shr, Nat.one_mul, Nat.reduceAdd, lg_cmp_eq, L_and, L_or, bI_1, bI_0, if_true, if_false, reduceIte, N_m1x, ite_not, Nat.one_ne_zero, Nat.zero_ne_one, eq_self, not_true_eq_false, not_false_eq_true, hz]
  have c1 : C0 σ (up2 g 19 10 (nI 1)) hj := C0_cg c.2.1 (fun k _ _ => u2_r _ _ _ (by omega)) rfl
  have ge1 : GE (up2 g 19 10 (nI 1)) := GE_cg ge (fun k _ _ => u2_r _ _ _ (by omega))
  rw [show d + 31 = (d + 26) + 5 by omega]
  refine c_begin c1 ge1 (by omega) (fun g2 hj2 f2 e10 fh cp ss tc ro r0 st => ?_)
  have hn := cp.2.1
  have e0 := cp.1.1
  have pw2 : 2 ^ (PL σ).length ≤ 2 ^ 8 := pow_le hn
  have pw1 : 1 ≤ 2 ^ (PL σ).length := Nat.one_le_two_pow
  simp (disch := omega) only [↓s_Ways_refusal_32, ↓s_Ways_refusal_33, ↓s_Ways_refusal_36, ↓s_Ways_refusal_37, ↓s_Ways_refusal_38, ↓s_Ways_refusal_41, e_Ways_placesFrom, ↓s_Ways_placesFrom_0, ↓s_Ways_placesFrom_1, ↓s_Ways_placesFrom_2, ↓s_Ways_placesFrom_5, ↓s_Ways_placesFrom_8, ↓s_Ways_placesFrom_9, ↓s_Ways_placesFrom_10, ↓s_Ways_placesFrom_11, ↓s_Ways_placesFrom_12, ↓s_Ways_placesFrom_13, nI_leI, nI_ltI, nI_eq, N_z, nI_add, pk_sub, pk_mul, kL_i, kL_r, kL_d, kL_l, kL_k, kL_f, Option.toList_some, Option.toList_none, List.cons_append, List.nil_append, bI_z, N_and, N_or, N_shl, N_shr, Nat.one_mul, Nat.reduceAdd, lg_cmp_eq, L_and, L_or, bI_1, bI_0, if_true, if_false, reduceIte, N_m1x, ite_not, e0, Nat.pow_zero]
  have inkk : inK (PL σ) 0 (2 ^ (PL σ).length - 1) := ⟨by omega, fun p hp => by omega⟩
  have nw := no_way (σ := σ) (Ls := PL σ) (k := 0) (j := fun _ => 0) (pl_nd _) (by omega) ss.2.2.2 (SS_R ss.1)
  rw [show d + 26 + 5 = (d + 11) + 20 by omega]
  refine c_canAllFollow inkk (by omega) cp ss (fun g3 f3 ss3 => ?_)
  have fr3 : ∀ i, i < 19 ∨ i = 32 ∨ i = 38 ∨ 42 ≤ i → g3 i = g i := fun i hi => by rw [f3 i (by omega), f2 i (by omega), u2_r _ _ _ (by omega)]
  have e103 : g3 19 10 = nI 1 := by rw [f3 19 (by omega), e10, u2_s]
  have cp3 := CP_cg cp (g2 := g3) (fun k _ _ => f3 k (by omega))
  have tc3 : TC σ [] g3 := by
    unfold TC at tc ⊢
    rw [f3 19 (by omega), f3 21 (by omega), f3 22 (by omega)]
    exact tc
  have ro3 : RO σ [] 0 g3 := by
    unfold RO at ro ⊢
    rw [f3 23 (by omega)]
    exact ro
  have r03 : ∀ l, l < 12 → g3 23 l = nI 0 := by rw [f3 23 (by omega)]; exact r0
  -- all that is fresh
  have fresh : ∀ (g4 : Nat → Nat → Int32), Frl g3 g4 → SS1 σ (PL σ) 0 (fun _ => 0) g4 → TC σ (wyl σ) g4 → RO σ (wyl σ) 0 g4 → (∀ l, l < 12 → l ∉ PL σ → g4 23 l = nI 0) → wp X (d + 32) m_Ways_refusal 53 [.ref 19] [] (HP g4 hj2) Q := by
    intro g4 u1 u2 u3 u4 u5
    have e104 : g4 19 10 = nI 1 := by rw [u1.2 10 (by omega) (by omega)]; exact e103
    have fr4 : ∀ i, i < 19 ∨ 42 ≤ i → g4 i = g i := fun i hi => by rw [u1.1 i (by omega)]; exact fr3 i (by omega)
    have gi0 := GI_0.mp u2.1
    have fr : FR σ g4 hj2 := by
      refine ⟨by omega, rdCh_cg cp3.1 (fun k _ _ => u1.1 k (by omega)) rfl, fun r hr => ?_, u3.1, u3.2.1, fun l hl => ?_⟩
      · obtain ⟨c0, z1, z2, z3, z4⟩ := u2.2.1.1 r hr
        have : c0 = 0 := by omega
        subst this
        refine ⟨z2, fun x hx => ?_⟩
        have hA : ∀ S, CTP σ (inA (PL σ) (2 ^ 0 - 1)) S (fun _ => 0) r ↔ CTP σ (fun _ => False) S (fun _ => 0) r := fun S => CTP_cg (fun l => by
          constructor
          · rintro ⟨q, _⟩
            obtain ⟨p, p1, _⟩ := inA_k.mp q
            omega
          · rintro ⟨q, _⟩; exact q.elim) (fun _ _ _ => rfl) (fun _ => Iff.rfl)
        rcases u2.2.1.2 r hr 0 (Nat.le_refl _) (Or.inl rfl) x hx with q | ⟨q1, q2⟩ | ⟨q1, q2⟩
        · exact Or.inl q
        · exact Or.inr (Or.inl ⟨q1, (hA _).mp q2⟩)
        · exact Or.inr (Or.inr ⟨q1, fun z => q2 ((hA _).mpr z)⟩)
      · split
        · rename_i ha
          have hm : l ∉ PL σ := fun z => (PL_mem.mp z).2 ha
          obtain ⟨q1, q2⟩ := u3.2.2.2 l (by omega) hm
          exact ⟨q1, q2, u5 l (by omega) hm⟩
        · rename_i ha
          have hm := PL_mem.mpr ⟨hl, ha⟩
          refine ⟨fun hn0 => u3.2.2.1 (fun e => by rw [e] at hn0; simp at hn0) l hm, ?_⟩
          obtain ⟨p, hp, e⟩ := List.getElem_of_mem hm
          have := u4 p (by omega) hp
          rw [List.getD_eq_getElem?_getD, List.getElem?_eq_getElem hp] at this
          change g4 23 ((PL σ)[p]) = nI (mayN σ (wyl σ) ((PL σ)[p])) at this
          rw [e] at this
          exact this
    have ge4 : GE g4 := ⟨fun r hr => ⟨gi0.1 r hr, u2.2.2.1 r hr⟩, gi0.2⟩
    refine fin g4 hj2 ⟨rdL_cg c.1 (by rw [fr4 1 (by omega)]) (fr4 2 (by omega)), C0_cg c.2.1 (fun k _ _ => fr4 k (by omega)) (fh 9 (by omega)), ⟨ge4, Or.inr ⟨e104, fr⟩⟩, CG_cg c.2.2.2.1 (fun k _ _ => fr4 k (by omega)), CS_cg c.2.2.2.2 (fun k _ _ => fr4 k (by omega))⟩ (fun k hk => fr4 k (by omega)) (fun k hk => fh k (by omega)) (by omega) e104 fr
  simp (disch := omega) only [↓s_Ways_refusal_44, nI_leI, nI_ltI, nI_eq, N_z, nI_add, pk_sub, pk_mul, kL_i, kL_r, kL_d, kL_l, kL_k, kL_f, Option.toList_some, Option.toList_none, List.cons_append, List.nil_append, bI_z, N_and, N_or, N_shl, N_shr, Nat.one_mul, Nat.reduceAdd, lg_cmp_eq, L_and, L_or, bI_1, bI_0, if_true, if_false, reduceIte, N_m1x, ite_not]
  rw [show d + 11 + 20 + 1 = d + 32 by omega]
  have ewl : wyl σ = [] ++ (Ws σ ((PL σ).drop 0) (dnk (PL σ) 0) (fun _ => 0)).take (20000 - ([] : List (Nat → Nat)).length) := rfl
  by_cases hew : cl (EWk σ (PL σ) 0 (2 ^ (PL σ).length - 1) (fun _ => 0)) = true
  · rw [if_pos hew]
    simp (disch := omega) only [↓s_Ways_refusal_47, ↓s_Ways_refusal_48, ↓s_Ways_refusal_49, ↓s_Ways_refusal_50, nI_leI, nI_ltI, nI_eq, N_z, nI_add, pk_sub, pk_mul, kL_i, kL_r, kL_d, kL_l, kL_k, kL_f, Option.toList_some, Option.toList_none, List.cons_append, List.nil_append, bI_z, N_and, N_or, N_shl, N_shr, Nat.one_mul, Nat.reduceAdd, lg_cmp_eq, L_and, L_or, bI_1, bI_0, if_true, if_false, reduceIte, N_m1x, ite_not]
    rw [show d + 31 = (d + 9 - (PL σ).length) + (PL σ).length + 22 by omega]
    refine lead_all (PL σ).length 0 (fun _ => 0) [] g3 (d + 9 - (PL σ).length) _ (by omega) cp3 ss3 tc3 (fun w hw => by simp at hw) ro3 (by simp) (fun r hr => by rw [f3 20 (by omega)]; exact st r hr) (fun g4 u1 u2 u3 u4 u5 u6 => ?_)
    rw [← ewl] at u3 u4
    rw [show d + 9 - (PL σ).length + (PL σ).length + 22 + 1 = d + 32 by omega, Option.toList_none, List.nil_append]
    exact fresh g4 u1 u2 u3 u4 (fun l l1 l2 => by rw [u6 l l2]; exact r03 l l1)
  · rw [if_neg hew]
    have hW : Ws σ ((PL σ).drop 0) (dnk (PL σ) 0) (fun _ => 0) = [] := by
      by_cases e : Ws σ ((PL σ).drop 0) (dnk (PL σ) 0) (fun _ => 0) = []
      · exact e
      · exact absurd (cl_t.mpr (nw.mp e)) hew
    have hwy : wyl σ = [] := by rw [ewl, hW]; rfl
    exact fresh g3 ⟨fun _ _ => rfl, fun _ _ _ => rfl⟩ ss3 (by rw [hwy]; exact tc3) (by rw [hwy]; exact ro3) (fun l l1 _ => r03 l l1)
end REFU
