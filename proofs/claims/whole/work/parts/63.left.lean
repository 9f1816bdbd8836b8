/-! the fewest lumps left out -/
noncomputable def ewb (σ : ST) (o : Nat) : Bool := if Ws σ (sl (prs σ &&& (o ^^^ 4294967295)) (σ 11 0)) [] (fun _ => 0) = [] then false else true
noncomputable def lfm (σ : ST) : Nat → Nat
  | 0 => prs σ
  | o + 1 => if o &&& (prs σ ^^^ 4294967295) = 0 ∧ pcn o 16 < pcn (lfm σ o) 16 ∧ ewb σ o = true then o else lfm σ o
noncomputable def aLeft (σ : ST) : Int32 := if 8 < (PL σ).length then -4 else nI (lfm σ (2 ^ σ 11 0))
def LO (σ : ST) (b : Nat) : Prop := b &&& (prs σ ^^^ 4294967295) = 0 ∧ ewb σ b = true ∧ ∀ o, o < 2 ^ σ 11 0 → o &&& (prs σ ^^^ 4294967295) = 0 → ewb σ o = true → pcn b 16 < pcn o 16 ∨ (pcn b 16 = pcn o 16 ∧ b ≤ o)
section LEFT
variable {X : AX} {d : Nat} {Q : Option Value → AH → Prop} {g : Nat → Nat → Int32} {hj : Nat → Nat → Int64} {σ τ : ST} {t : Nat → Nat} {n : Nat} {a a1 a2 : Int32}
theorem pcn_sub {a b : Nat} : ∀ n, (∀ i, i < n → a.testBit i = true → b.testBit i = true) → pcn a n ≤ pcn b n ∧ (pcn a n = pcn b n → ∀ i, i < n → a.testBit i = b.testBit i)
  | 0, _ => ⟨Nat.le_refl 0, fun _ i hi => by omega⟩
  | n + 1, h => by
    obtain ⟨h1, h2⟩ := pcn_sub n (fun i hi => h i (by omega))
    have h3 := h n (by omega)
    unfold pcn
    rw [dm_tb, dm_tb]
    by_cases ha : a.testBit n = true
    · rw [if_pos ha, if_pos (h3 ha)]
      refine ⟨by omega, fun e i hi => ?_⟩
      by_cases ei : i = n
      · subst ei; rw [ha, h3 ha]
      · exact h2 (by omega) i (by omega)
    · rw [if_neg ha]
      by_cases hb : b.testBit n = true
      · rw [if_pos hb]
        exact ⟨by omega, fun e => by omega⟩
      · rw [if_neg hb]
        refine ⟨by omega, fun e i hi => ?_⟩
        by_cases ei : i = n
        · subst ei
          have e1 : a.testBit i = false := by simpa using ha
          have e2 : b.testBit i = false := by simpa using hb
          rw [e1, e2]
        · exact h2 (by omega) i (by omega)
theorem prs_16 (w : σ 11 0 ≤ 12) : prs σ < 65536 := Nat.lt_of_lt_of_le (prs_lt σ) (pow_le (show σ 11 0 ≤ 16 by omega))
theorem sub_eq {o : Nat} (w : σ 11 0 ≤ 12) (ho : o < 65536) (h : o &&& (prs σ ^^^ 4294967295) = 0) (e : pcn o 16 = pcn (prs σ) 16) : o = prs σ :=
  eq16 ho (prs_16 w) ((pcn_sub 16 (fun i hi hb => (sub0 ho).mp h i hi hb)).2 e)
theorem ewb_p (w : σ 11 0 ≤ 12) : ewb σ (prs σ) = true := by
  have e : prs σ &&& (prs σ ^^^ 4294967295) = 0 := (sub0 (prs_16 w)).mpr (fun e he h => h)
  have e2 : ∀ m, sl 0 m = [] := by
    intro m
    induction m with
    | zero => rfl
    | succ m ih => unfold sl; rw [ih]; simp
  unfold ewb
  rw [e, e2]
  simp [Ws]
theorem lfm_ok (w : σ 11 0 ≤ 12) : ∀ o, o ≤ 2 ^ σ 11 0 → (lfm σ o < o ∨ lfm σ o = prs σ) ∧ lfm σ o &&& (prs σ ^^^ 4294967295) = 0 ∧ ewb σ (lfm σ o) = true ∧ ∀ p, p < o → p &&& (prs σ ^^^ 4294967295) = 0 → ewb σ p = true → pcn (lfm σ o) 16 < pcn p 16 ∨ (pcn (lfm σ o) 16 = pcn p 16 ∧ lfm σ o ≤ p)
  | 0, _ => ⟨Or.inr rfl, (sub0 (prs_16 w)).mpr (fun e he h => h), ewb_p w, fun p hp => by omega⟩
  | o + 1, ho => by
    obtain ⟨h1, h2, h3, h4⟩ := lfm_ok w o (by omega)
    have w3 : 2 ^ σ 11 0 ≤ 2 ^ 12 := pow_le w
    unfold lfm
    by_cases hc : o &&& (prs σ ^^^ 4294967295) = 0 ∧ pcn o 16 < pcn (lfm σ o) 16 ∧ ewb σ o = true
    · rw [if_pos hc]
      refine ⟨Or.inl (by omega), hc.1, hc.2.2, fun p hp q1 q2 => ?_⟩
      by_cases e : p = o
      · subst e; exact Or.inr ⟨rfl, Nat.le_refl _⟩
      · have := h4 p (by omega) q1 q2
        omega
    · rw [if_neg hc]
      refine ⟨by omega, h2, h3, fun p hp q1 q2 => ?_⟩
      by_cases e : p = o
      · subst e
        by_cases e2 : pcn p 16 < pcn (lfm σ p) 16
        · exact absurd ⟨q1, e2, q2⟩ hc
        · by_cases e3 : pcn (lfm σ p) 16 < pcn p 16
          · exact Or.inl e3
          · refine Or.inr ⟨by omega, ?_⟩
            rcases h1 with h1 | h1
            · omega
            · rw [h1] at e2 e3 ⊢
              rw [sub_eq w (by omega) q1 (by omega)]
              exact Nat.le_refl _
      · exact h4 p (by omega) q1 q2
theorem lfm_LO (w : σ 11 0 ≤ 12) : LO σ (lfm σ (2 ^ σ 11 0)) := by
  obtain ⟨h1, h2, h3, h4⟩ := lfm_ok w _ (Nat.le_refl _)
  exact ⟨h2, h3, h4⟩
theorem LO_u {b b2 : Nat} (h : LO σ b) (h2 : LO σ b2) (hb : b < 2 ^ σ 11 0) (hb2 : b2 < 2 ^ σ 11 0) : b = b2 := by
  have e1 := h.2.2 b2 hb2 h2.1 h2.2.1
  have e2 := h2.2.2 b hb h.1 h.2.1
  omega
theorem lfm_lt (w : σ 11 0 ≤ 12) : lfm σ (2 ^ σ 11 0) < 2 ^ σ 11 0 := by
  rcases (lfm_ok w _ (Nat.le_refl _)).1 with h | h
  · exact h
  · rw [h]; exact prs_lt σ
theorem lfm_16 (w : σ 11 0 ≤ 12) {o : Nat} (ho : o ≤ 2 ^ σ 11 0) : lfm σ o < 65536 := by
  have w3 : 2 ^ σ 11 0 ≤ 2 ^ 12 := pow_le w
  have := prs_16 w
  rcases (lfm_ok w o ho).1 with h | h
  · omega
  · rw [h]; exact this
theorem l_M_left {kept : Int32} (c : M0 σ g hj) (ro : rdOp g hj σ) (Kc : ∀ g', (∀ k, k ≠ 51 → (k < 72 ∨ 77 ≤ k) → g' k = g k) → (∀ i, i ≠ 30 → i ≠ 34 → g' 51 i = g 51 i) → Q (some (.int (nI (lfm σ (2 ^ σ 11 0))))) (HP (up2 g' 51 34 kept) hj)) :
    ∀ (m o : Nat) (g2 : Nat → Nat → Int32), o + m = 2 ^ σ 11 0 → (∀ k, k ≠ 51 → (k < 72 ∨ 77 ≤ k) → g2 k = g k) → (∀ i, i ≠ 30 → i ≠ 34 → g2 51 i = g 51 i) →
    wp X (d + 3) m_M_leftNow 25 [.ref 51, .int kept, .int (nI (prs σ)), .int (nI (lfm σ o)), .int (nI o)] [] (HP g2 hj) Q
  | 0, o, g2, ho, e1, e2 => by
    have w := c.1.2.2.2.1.1
    have w3 : 2 ^ σ 11 0 ≤ 2 ^ 12 := pow_le w
    have w5 : 1 ≤ 2 ^ σ 11 0 := Nat.one_le_two_pow
    have c2 : M0 σ g2 hj := M0_cg c (e2 _ (by omega) (by omega)) (e2 _ (by omega) (by omega)) (e2 _ (by omega) (by omega)) (e2 _ (by omega) (by omega)) (fun k _ _ => e1 k (by omega) (by omega))
    have : o = 2 ^ σ 11 0 := by omega
    subst this
    rw [s_M_leftNow_25]
    simp (disch := omega) only [↓s_M_leftNow_27, ↓s_M_leftNow_28, ↓s_M_leftNow_31, ↓s_M_leftNow_79, ↓s_M_leftNow_80, ↓s_M_leftNow_81, ↓s_M_leftNow_84, ↓s_M_leftNow_85, nI_leI, nI_ltI, nI_eq, N_z, nI_add, pk_sub, pk_mul, kL_i, kL_r, kL_d, kL_l, kL_k, kL_f, Option.toList_some, Option.toList_none, List.cons_append, List.nil_append, bI_z, N_and, N_or, N_shl, N_shr, Nat.one_mul, Nat.reduceAdd, lg_cmp_eq, L_and, L_or, bI_1, bI_0, if_true, if_false, reduceIte, N_m1x, ite_not, c_M_allLumps c2]
    rw [if_pos (by omega)]
    exact Kc g2 e1 e2
  | m + 1, o, g2, ho, e1, e2 => by
    have w := c.1.2.2.2.1.1
    have w3 : 2 ^ σ 11 0 ≤ 2 ^ 12 := pow_le w
    have w5 : 1 ≤ 2 ^ σ 11 0 := Nat.one_le_two_pow
    have c2 : M0 σ g2 hj := M0_cg c (e2 _ (by omega) (by omega)) (e2 _ (by omega) (by omega)) (e2 _ (by omega) (by omega)) (e2 _ (by omega) (by omega)) (fun k _ _ => e1 k (by omega) (by omega))
    have ro2 : rdOp g2 hj σ := rdOp_cg ro (fun k _ _ => e1 k (by omega) (by omega)) rfl
    have lf := lfm_16 w (show o ≤ 2 ^ σ 11 0 by omega)
    have l1 : o &&& (prs σ ^^^ 4294967295) ≤ o := Nat.and_le_left
    have l2 := pcn_le o 16
    have l3 := pcn_le (lfm σ o) 16
    have l4 : prs σ &&& (o ^^^ 4294967295) ≤ prs σ := Nat.and_le_left
    have l5 := prs_16 w
    have e : lfm σ (o + 1) = if o &&& (prs σ ^^^ 4294967295) = 0 ∧ pcn o 16 < pcn (lfm σ o) 16 ∧ ewb σ o = true then o else lfm σ o := rfl
    rw [s_M_leftNow_25]
    simp (disch := omega) only [↓s_M_leftNow_27, ↓s_M_leftNow_28, ↓s_M_leftNow_31, ↓s_M_leftNow_34, ↓s_M_leftNow_36, ↓s_M_leftNow_37, ↓s_M_leftNow_38, ↓s_M_leftNow_39, ↓s_M_leftNow_40, ↓s_M_leftNow_43, ↓s_M_leftNow_45, ↓s_M_leftNow_48, ↓s_M_leftNow_49, ↓s_M_leftNow_52, nI_leI, nI_ltI, nI_eq, N_z, nI_add, pk_sub, pk_mul, kL_i, kL_r, kL_d, kL_l, kL_k, kL_f, Option.toList_some, Option.toList_none, List.cons_append, List.nil_append, bI_z, N_and, N_or, N_shl, N_shr, Nat.one_mul, Nat.reduceAdd, lg_cmp_eq, L_and, L_or, bI_1, bI_0, if_true, if_false, reduceIte, N_m1x, ite_not, c_M_allLumps c2, c_M_onesOf]
    rw [if_neg (by omega)]
    by_cases h1 : o &&& (prs σ ^^^ 4294967295) = 0
    case neg =>
      rw [if_neg h1]
      rw [if_neg (fun z => h1 z.1)] at e
      simp (disch := omega) only [↓s_M_leftNow_73, ↓s_M_leftNow_76, nI_leI, nI_ltI, nI_eq, N_z, nI_add, pk_sub, pk_mul, kL_i, kL_r, kL_d, kL_l, kL_k, kL_f, Option.toList_some, Option.toList_none, List.cons_append, List.nil_append, bI_z, N_and, N_or, N_shl, N_shr, Nat.one_mul, Nat.reduceAdd, lg_cmp_eq, L_and, L_or, bI_1, bI_0, if_true, if_false, reduceIte, N_m1x, ite_not, ← e]
      exact l_M_left c ro Kc m (o + 1) g2 (by omega) e1 e2
    rw [if_pos h1]
    by_cases h2 : pcn (lfm σ o) 16 ≤ pcn o 16
    · rw [if_pos h2]
      rw [if_neg (fun z => by omega)] at e
      simp (disch := omega) only [↓s_M_leftNow_73, ↓s_M_leftNow_76, nI_leI, nI_ltI, nI_eq, N_z, nI_add, pk_sub, pk_mul, kL_i, kL_r, kL_d, kL_l, kL_k, kL_f, Option.toList_some, Option.toList_none, List.cons_append, List.nil_append, bI_z, N_and, N_or, N_shl, N_shr, Nat.one_mul, Nat.reduceAdd, lg_cmp_eq, L_and, L_or, bI_1, bI_0, if_true, if_false, reduceIte, N_m1x, ite_not, ← e]
      exact l_M_left c ro Kc m (o + 1) g2 (by omega) e1 e2
    rw [if_neg h2]
    simp (disch := omega) only [↓s_M_leftNow_55, ↓s_M_leftNow_56, ↓s_M_leftNow_57, ↓s_M_leftNow_59, ↓s_M_leftNow_60, ↓s_M_leftNow_61, ↓s_M_leftNow_62, ↓s_M_leftNow_63, ↓s_M_leftNow_64, nI_leI, nI_ltI, nI_eq, N_z, nI_add, pk_sub, pk_mul, kL_i, kL_r, kL_d, kL_l, kL_k, kL_f, Option.toList_some, Option.toList_none, List.cons_append, List.nil_append, bI_z, N_and, N_or, N_shl, N_shr, Nat.one_mul, Nat.reduceAdd, lg_cmp_eq, L_and, L_or, bI_1, bI_0, if_true, if_false, reduceIte, N_m1x, ite_not]
    refine c_M_goes0 c2 ro2 (by omega) (fun g3 q1 q2 => ?_)
    have f1 : ∀ k, k ≠ 51 → (k < 72 ∨ 77 ≤ k) → g3 k = g k := fun k k1 k2 => (q1 k k1 k2).trans (e1 k k1 k2)
    have f2 : ∀ i, i ≠ 30 → i ≠ 34 → g3 51 i = g 51 i := fun i i1 i2 => (q2 i i1 i2).trans (e2 i i1 i2)
    have z0 : ∀ x : Nat, x < 2 → ((nI x ≤ 0) = (x = 0)) := by
      intro x hx
      rw [show (0 : Int32) = nI 0 from rfl]
      apply propext
      rw [nI_leI (by omega) (by omega)]
      omega
    by_cases h3 : Ws σ (sl (prs σ &&& (o ^^^ 4294967295)) (σ 11 0)) [] (fun _ => 0) = []
    · have h4 : ewb σ o = false := by unfold ewb; rw [if_pos h3]
      rw [if_pos h3]
      rw [if_neg (fun z => by rw [h4] at z; exact absurd z.2.2 (by decide))] at e
      simp (disch := omega) only [↓s_M_leftNow_67, ↓s_M_leftNow_73, ↓s_M_leftNow_76, nI_leI, nI_ltI, nI_eq, N_z, nI_add, pk_sub, pk_mul, kL_i, kL_r, kL_d, kL_l, kL_k, kL_f, Option.toList_some, Option.toList_none, List.cons_append, List.nil_append, bI_z, N_and, N_or, N_shl, N_shr, Nat.one_mul, Nat.reduceAdd, lg_cmp_eq, L_and, L_or, bI_1, bI_0, if_true, if_false, reduceIte, N_m1x, ite_not, z0, ← e]
      exact l_M_left c ro Kc m (o + 1) g3 (by omega) f1 f2
    · have h4 : ewb σ o = true := by unfold ewb; rw [if_neg h3]
      rw [if_neg h3]
      rw [if_pos ⟨h1, by omega, h4⟩] at e
      have z1 : ¬ nI 1 ≤ 0 := by decide
      simp (disch := omega) only [↓s_M_leftNow_67, ↓s_M_leftNow_70, ↓s_M_leftNow_72, ↓s_M_leftNow_73, ↓s_M_leftNow_76, nI_leI, nI_ltI, nI_eq, N_z, nI_add, pk_sub, pk_mul, kL_i, kL_r, kL_d, kL_l, kL_k, kL_f, Option.toList_some, Option.toList_none, List.cons_append, List.nil_append, bI_z, N_and, N_or, N_shl, N_shr, Nat.one_mul, Nat.reduceAdd, lg_cmp_eq, L_and, L_or, bI_1, bI_0, if_true, if_false, reduceIte, N_m1x, ite_not, z1]
      have ih := l_M_left c ro Kc m (o + 1) g3 (by omega) f1 f2
      rw [e] at ih
      exact ih
theorem c_M_leftNow (c : MR t n σ τ g hj) (K : KFr g hj Q t n σ τ (aLeft σ)) : cwp X (d + 7) m_M_leftNow [.ref 51] (HP g hj) Q := by
  simp only [e_M_leftNow, ↓s_M_leftNow_0, ↓s_M_leftNow_1]
  refine c_M_works c (fun g' hj' c' e1 e2 => ?_)
  unfold aLeft at K
  simp (disch := omega) only [↓s_M_leftNow_4, ↓s_M_leftNow_7, ↓s_M_leftNow_9, nI_leI, nI_ltI, nI_eq, N_z, nI_add, pk_sub, pk_mul, kL_i, kL_r, kL_d, kL_l, kL_k, kL_f, Option.toList_some, Option.toList_none, List.cons_append, List.nil_append, bI_z, N_and, N_or, N_shl, N_shr, Nat.one_mul, Nat.reduceAdd, lg_cmp_eq, L_and, L_or, bI_1, bI_0, if_true, if_false, reduceIte, N_m1x, ite_not]
  by_cases h8 : 8 < (PL σ).length
  · rw [if_pos h8] at K ⊢
    exact K g' hj' c' e1 e2
  rw [if_neg h8] at K ⊢
  obtain ⟨h13, f⟩ := c'.2 (by omega)
  have e34 := f.2.2.1
  simp (disch := omega) only [↓s_M_leftNow_10, ↓s_M_leftNow_11, ↓s_M_leftNow_14, ↓s_M_leftNow_15, ↓s_M_leftNow_16, ↓s_M_leftNow_19, ↓s_M_leftNow_20, ↓s_M_leftNow_21, ↓s_M_leftNow_22, ↓s_M_leftNow_23, nI_leI, nI_ltI, nI_eq, N_z, nI_add, pk_sub, pk_mul, kL_i, kL_r, kL_d, kL_l, kL_k, kL_f, Option.toList_some, Option.toList_none, List.cons_append, List.nil_append, bI_z, N_and, N_or, N_shl, N_shr, Nat.one_mul, Nat.reduceAdd, lg_cmp_eq, L_and, L_or, bI_1, bI_0, if_true, if_false, reduceIte, N_m1x, ite_not, e34, c_M_present c'.1.2.1]
  refine l_M_left c'.1.2.1 f.2.1 (fun g2 q1 q2 => ?_) (2 ^ σ 11 0) 0 g' (by omega) (fun _ _ _ => rfl) (fun _ _ _ => rfl)
  have b51 : ∀ i, i ≠ 30 → up2 g2 51 34 (nI (wyl σ).length) 51 i = g' 51 i := by
    intro i hi
    by_cases e : i = 34
    · subst e; rw [u2_s, e34]
    · rw [u2_m _ _ _ _ e]; exact q2 i hi e
  have bk : ∀ k, k ≠ 51 → (k < 72 ∨ 77 ≤ k) → up2 g2 51 34 (nI (wyl σ).length) k = g' k := fun k k1 k2 => by rw [u2_r _ _ _ k1]; exact q1 k k1 k2
  have fm : FM σ (up2 g2 51 34 (nI (wyl σ).length)) hj' := by
    obtain ⟨f1, f2, f3, f4, f5⟩ := f
    refine ⟨f1, rdOp_cg f2 (fun k _ _ => bk k (by omega) (by omega)) rfl, u2_s _ _ _ _, fun hn => by rw [b51 35 (by omega)]; exact f4 hn, ?_⟩
    rw [bk 77 (by omega) (by omega), bk 78 (by omega) (by omega)]
    exact f5
  have cc := c'.1
  refine K _ _ ⟨⟨rdL_cg cc.1 (b51 0 (by omega)) (bk 52 (by omega) (by omega)), M0_cg cc.2.1 (b51 _ (by omega)) (b51 _ (by omega)) (b51 _ (by omega)) (b51 _ (by omega)) (fun k _ _ => bk k (by omega) (by omega)), Or.inr ⟨(b51 13 (by omega)).trans h13, fm⟩, MS_cg cc.2.2.2 (b51 _ (by omega)) (fun k _ _ => bk k (by omega) (by omega))⟩, fun _ => ⟨(b51 13 (by omega)).trans h13, fm⟩⟩ (fun k hk => (bk k (by omega) (by omega)).trans (e1 k hk)) e2
theorem p_M_leftOut (c : MR t n σ τ g hj) (K : KM g hj Q (t, n, σ, τ, aLeft σ)) : cwp X (d + 8) m_M_leftOut [.ref 51] (HP g hj) Q := by
  simp only [e_M_leftOut, ↓s_M_leftOut_0, ↓s_M_leftOut_1]
  refine c_M_leftNow c (fun g' hj' c' e1 e2 => ?_)
  simp (disch := omega) only [↓s_M_leftOut_4, nI_leI, nI_ltI, nI_eq, N_z, nI_add, pk_sub, pk_mul, kL_i, kL_r, kL_d, kL_l, kL_k, kL_f, Option.toList_some, Option.toList_none, List.cons_append, List.nil_append, bI_z, N_and, N_or, N_shl, N_shr, Nat.one_mul, Nat.reduceAdd, lg_cmp_eq, L_and, L_or, bI_1, bI_0, if_true, if_false, reduceIte, N_m1x, ite_not]
  exact K g' hj' c'.1 e1 e2
end LEFT
