/-! canBeTurned -/
def nx (s : Nat) : Nat → Nat → Nat
  | 0, x => x
  | m + 1, x => if s.testBit x = true then x else nx s m (x + 1)
theorem nx_ok (s : Nat) : ∀ m x, x ≤ nx s m x ∧ nx s m x ≤ x + m ∧ (∀ p, x ≤ p → p < nx s m x → ¬ s.testBit p = true) ∧ (nx s m x < x + m → s.testBit (nx s m x) = true)
  | 0, x => ⟨Nat.le_refl _, Nat.le_refl _, fun p h1 h2 => by simp only [nx] at h2; omega, fun h => by simp only [nx] at h; omega⟩
  | m + 1, x => by
    obtain ⟨h1, h2, h3, h4⟩ := nx_ok s m (x + 1)
    unfold nx
    by_cases hb : s.testBit x = true
    · rw [if_pos hb]
      exact ⟨Nat.le_refl _, by omega, fun p p1 p2 => by omega, fun _ => hb⟩
    · rw [if_neg hb]
      refine ⟨by omega, by omega, fun p p1 p2 => ?_, fun h => h4 (by omega)⟩
      by_cases e : p = x
      · subst e; exact hb
      · exact h3 p (by omega) p2
section TRN
variable {X : AX} {d : Nat} {Q : Option Value → AH → Prop} {g : Nat → Nat → Int32} {hj : Nat → Nat → Int64} {σ : ST} {Ls : List Nat} {s r : Nat}
theorem l_nextOf {f : Nat} (e0 : g 24 2 = nI Ls.length) (hn : Ls.length ≤ 8) (hs : s < 65536) : ∀ (m x : Nat), x + m = Ls.length → wp X d m_Followers_nextOf 2 [.ref 38, .int (nI s), .int (nI f), .int (nI x)] [] (HP g hj) Q = Q (some (.int (nI (nx s m x)))) (HP g hj)
  | 0, x, hx => by
    have : x = Ls.length := by omega
    subst this
    rw [s_Followers_nextOf_2]
    simp (disch := omega) only [↓s_Followers_nextOf_3, ↓s_Followers_nextOf_4, ↓s_Followers_nextOf_7, ↓s_Followers_nextOf_10, ↓s_Followers_nextOf_27, ↓s_Followers_nextOf_28, nI_leI, nI_ltI, nI_eq, N_z, nI_add, pk_sub, pk_mul, kL_i, kL_r, kL_d, kL_l, kL_k, kL_f, Option.toList_some, Option.toList_none, List.cons_append, List.nil_append, bI_z, N_and, N_or, N_shl, N_shr, Nat.one_mul, Nat.reduceAdd, lg_cmp_eq, L_and, L_or, bI_1, bI_0, if_true, if_false, reduceIte, N_m1x, ite_not, e0, Nat.le_refl]
    rfl
  | m + 1, x, hx => by
    rw [s_Followers_nextOf_2]
    simp (disch := omega) only [↓s_Followers_nextOf_3, ↓s_Followers_nextOf_4, ↓s_Followers_nextOf_7, ↓s_Followers_nextOf_10, ↓s_Followers_nextOf_13, ↓s_Followers_nextOf_14, ↓s_Followers_nextOf_15, ↓s_Followers_nextOf_16, ↓s_Followers_nextOf_17, ↓s_Followers_nextOf_18, ↓s_Followers_nextOf_21, ↓s_Followers_nextOf_24, ↓s_Followers_nextOf_27, ↓s_Followers_nextOf_28, nI_leI, nI_ltI, nI_eq, N_z, nI_add, pk_sub, pk_mul, kL_i, kL_r, kL_d, kL_l, kL_k, kL_f, Option.toList_some, Option.toList_none, List.cons_append, List.nil_append, bI_z, N_and, N_or, N_shl, N_shr, Nat.one_mul, Nat.reduceAdd, lg_cmp_eq, L_and, L_or, bI_1, bI_0, if_true, if_false, reduceIte, N_m1x, ite_not, e0, Nat.and_one_is_mod, tb_z]
    rw [if_neg (by omega)]
    unfold nx
    by_cases hb : s.testBit x = true
    · rw [if_pos hb, if_pos hb]
    · rw [if_neg hb, if_neg hb]
      exact l_nextOf e0 hn hs m (x + 1) (by omega)
theorem c_nextOf {f : Nat} (e0 : g 24 2 = nI Ls.length) (hn : Ls.length ≤ 8) (hs : s < 65536) (hf : f ≤ Ls.length) : cwp X d m_Followers_nextOf [.ref 38, .int (nI s), .int (nI f)] (HP g hj) Q = Q (some (.int (nI (nx s (Ls.length - f) f)))) (HP g hj) := by
  simp only [e_Followers_nextOf, ↓s_Followers_nextOf_0, ↓s_Followers_nextOf_1, kL_i]
  exact l_nextOf e0 hn hs (Ls.length - f) f (by omega)
theorem c_startOf {p : Nat} (c : CP σ Ls g hj) (hp : p < Ls.length) (hr : r < 6) : cwp X d m_Choices_startOf [.ref 24, .int (nI p), .int (nI r)] (HP g hj) Q = Q (some (.int (nI (bas σ Ls p + on σ (Ls.getD p 0) r)))) (HP g hj) := by
  have hn := c.2.1
  have e := (c.1.2.1 p hp).2.1 r hr
  simp (disch := omega) only [e_Choices_startOf, ↓s_Choices_startOf_0, ↓s_Choices_startOf_1, ↓s_Choices_startOf_4, ↓s_Choices_startOf_5, ↓s_Choices_startOf_7, ↓s_Choices_startOf_8, ↓s_Choices_startOf_9, ↓s_Choices_startOf_10, ↓s_Choices_startOf_11, nI_leI, nI_ltI, nI_eq, N_z, nI_add, pk_sub, pk_mul, kL_i, kL_r, kL_d, kL_l, kL_k, kL_f, Option.toList_some, Option.toList_none, List.cons_append, List.nil_append, bI_z, N_and, N_or, N_shl, N_shr, Nat.one_mul, Nat.reduceAdd, lg_cmp_eq, L_and, L_or, bI_1, bI_0, if_true, if_false, reduceIte, N_m1x, ite_not, e]
theorem c_endOf {p : Nat} (c : CP σ Ls g hj) (hp : p < Ls.length) (hr : r < 6) : cwp X d m_Choices_endOf [.ref 24, .int (nI p), .int (nI r)] (HP g hj) Q = Q (some (.int (nI (bas σ Ls p + on σ (Ls.getD p 0) (r + 1))))) (HP g hj) := by
  have hn := c.2.1
  have e : g 26 (p * 6 + r + 1) = nI (bas σ Ls p + on σ (Ls.getD p 0) (r + 1)) := by
    by_cases h5 : r + 1 < 6
    · exact (c.1.2.1 p hp).2.1 (r + 1) h5
    · have r5 : r = 5 := by omega
      subst r5
      have eb : bas σ Ls (p + 1) = bas σ Ls p + on σ (Ls.getD p 0) 6 := rfl
      rw [show 5 + 1 = 6 from rfl, ← eb]
      by_cases hl : p + 1 < Ls.length
      · have := (c.1.2.1 (p + 1) hl).2.1 0 (by omega)
        rw [show p * 6 + 5 + 1 = (p + 1) * 6 + 0 by omega, this]
        rfl
      · have hpe : p + 1 = Ls.length := by omega
        rw [show p * 6 + 5 + 1 = (p + 1) * 6 by omega, hpe]
        exact c.1.2.2
  simp (disch := omega) only [e_Choices_endOf, ↓s_Choices_endOf_0, ↓s_Choices_endOf_1, ↓s_Choices_endOf_4, ↓s_Choices_endOf_5, ↓s_Choices_endOf_7, ↓s_Choices_endOf_8, ↓s_Choices_endOf_9, ↓s_Choices_endOf_10, ↓s_Choices_endOf_11, ↓s_Choices_endOf_12, ↓s_Choices_endOf_13, nI_leI, nI_ltI, nI_eq, N_z, nI_add, pk_sub, pk_mul, kL_i, kL_r, kL_d, kL_l, kL_k, kL_f, Option.toList_some, Option.toList_none, List.cons_append, List.nil_append, bI_z, N_and, N_or, N_shl, N_shr, Nat.one_mul, Nat.reduceAdd, lg_cmp_eq, L_and, L_or, bI_1, bI_0, if_true, if_false, reduceIte, N_m1x, ite_not, e]
/-- the set from a place on, as lumps -/
abbrev CTF (σ : ST) (Ls : List Nat) (a s f : Nat) (j : Nat → Nat) (r : Nat) : Prop := CTP σ (inA Ls a) (inF Ls s f) j r
theorem c_canBeTurned (hs : s < 2 ^ Ls.length) (hr : r < 6) : ∀ (m f a : Nat) (j : Nat → Nat) (g : Nat → Nat → Int32) (d : Nat) (Q : Option Value → AH → Prop), Ls.length ≤ f + m → f ≤ Ls.length → CP σ Ls g hj → GI σ Ls a j g → (∀ p, f ≤ p → s.testBit p = true → ¬ a.testBit p = true) → AGM σ Ls j a r →
    (∀ g', (∀ k, k < 33 ∨ 38 ≤ k → g' k = g k) → GI σ Ls a j g' → Q (some (.int (bI (cl (CTF σ Ls a s f j r) = true)))) (HP g' hj)) →
    cwp X (d + m + 2) m_Followers_canBeTurned [.ref 38, .int (nI r), .int (nI s), .int (nI f)] (HP g hj) Q := by
  intro m
  induction m with
  | zero =>
    intro f a j g d Q hm hf c gi hsa ag Kc
    have hn := c.2.1
    have s16 : s < 65536 := Nat.lt_of_lt_of_le hs (pow_le (show Ls.length ≤ 16 by omega))
    have e0 := c.1.1
    obtain ⟨n1, n2, n3, n4⟩ := nx_ok s (Ls.length - f) f
    simp (disch := omega) only [e_Followers_canBeTurned, ↓s_Followers_canBeTurned_0, ↓s_Followers_canBeTurned_1, ↓s_Followers_canBeTurned_2, ↓s_Followers_canBeTurned_3, ↓s_Followers_canBeTurned_6, ↓s_Followers_canBeTurned_8, ↓s_Followers_canBeTurned_10, ↓s_Followers_canBeTurned_11, ↓s_Followers_canBeTurned_14, ↓s_Followers_canBeTurned_17, ↓s_Followers_canBeTurned_20, ↓s_Followers_canBeTurned_21_0, ↓s_Followers_canBeTurned_21_1, ↓s_Followers_canBeTurned_21_b, c_nextOf e0 hn s16 hf, nI_leI, nI_ltI, nI_eq, N_z, nI_add, pk_sub, pk_mul, kL_i, kL_r, kL_d, kL_l, kL_k, kL_f, Option.toList_some, Option.toList_none, List.cons_append, List.nil_append, bI_z, N_and, N_or, N_shl, N_shr, Nat.one_mul, Nat.reduceAdd, lg_cmp_eq, L_and, L_or, bI_1, bI_0, if_true, if_false, reduceIte, N_m1x, ite_not, e0]
    rw [if_neg (by omega)]
    have := Kc g (fun _ _ => rfl) gi
    rw [bI_t (cl_t.mpr (CTP_0 ag (fun l hl => by obtain ⟨p, p1, p2, _⟩ := hl; omega)))] at this
    exact this
  | succ m ih =>
    intro f a j g d Q hm hf c gi hsa ag Kc
    have hn := c.2.1
    have nd := c.2.2.1
    have s16 : s < 65536 := Nat.lt_of_lt_of_le hs (pow_le (show Ls.length ≤ 16 by omega))
    have e0 := c.1.1
    obtain ⟨n1, n2, n3, n4⟩ := nx_ok s (Ls.length - f) f
    rw [show d + (m + 1) + 2 = d + m + 2 + 1 by omega]
    simp (disch := omega) only [e_Followers_canBeTurned, ↓s_Followers_canBeTurned_0, ↓s_Followers_canBeTurned_1, ↓s_Followers_canBeTurned_2, ↓s_Followers_canBeTurned_3, ↓s_Followers_canBeTurned_6, ↓s_Followers_canBeTurned_8, ↓s_Followers_canBeTurned_10, ↓s_Followers_canBeTurned_11, ↓s_Followers_canBeTurned_14, ↓s_Followers_canBeTurned_17, ↓s_Followers_canBeTurned_20, ↓s_Followers_canBeTurned_21_0, ↓s_Followers_canBeTurned_21_1, ↓s_Followers_canBeTurned_21_b, c_nextOf e0 hn s16 hf, nI_leI, nI_ltI, nI_eq, N_z, nI_add, pk_sub, pk_mul, kL_i, kL_r, kL_d, kL_l, kL_k, kL_f, Option.toList_some, Option.toList_none, List.cons_append, List.nil_append, bI_z, N_and, N_or, N_shl, N_shr, Nat.one_mul, Nat.reduceAdd, lg_cmp_eq, L_and, L_or, bI_1, bI_0, if_true, if_false, reduceIte, N_m1x, ite_not, e0]
    generalize hPx : nx s (Ls.length - f) f = P at *
    by_cases hP : P < Ls.length
    case neg =>
      rw [if_neg hP]
      have := Kc g (fun _ _ => rfl) gi
      rw [bI_t (cl_t.mpr (CTP_0 ag (fun l hl => by obtain ⟨p, p1, p2, p3, _⟩ := hl; exact n3 p p1 (by omega) p3)))] at this
      exact this
    rw [if_pos hP]
    have hsP := n4 (by omega)
    have haP := hsa P n1 hsP
    have hon := on_le (σ := σ) (l := Ls.getD P 0) 6
    have hb := bas_le (σ := σ) (Ls := Ls) P
    have om := on_mono2 (σ := σ) (l := Ls.getD P 0) (R := r) (S := r + 1) (by omega)
    have om6 := on_mono2 (σ := σ) (l := Ls.getD P 0) (R := r + 1) (S := 6) (by omega)
    -- what is asked of an option
    have stp := CTP_step (σ := σ) (j := j) (r := r) (S := inF Ls s f) (T := inF Ls s (P + 1)) nd gi.1 hP haP hr ⟨P, n1, hP, hsP, rfl⟩ (fun l => by
      constructor
      · rintro ⟨p, p1, p2, p3, rfl⟩
        exact ⟨⟨p, by omega, p2, p3, rfl⟩, L_ne nd p2 hP (by omega)⟩
      · rintro ⟨⟨p, p1, p2, p3, rfl⟩, hne⟩
        refine ⟨p, ?_, p2, p3, rfl⟩
        by_cases hlt : p < P
        · exact absurd p3 (n3 p p1 hlt)
        · have : p ≠ P := fun e => hne (by rw [e])
          omega)
    simp (disch := omega) only [↓s_Followers_canBeTurned_22, ↓s_Followers_canBeTurned_23, ↓s_Followers_canBeTurned_25, ↓s_Followers_canBeTurned_26, ↓s_Followers_canBeTurned_29, ↓s_Followers_canBeTurned_31, ↓s_Followers_canBeTurned_32, ↓s_Followers_canBeTurned_35, ↓s_Followers_canBeTurned_37, ↓s_Followers_canBeTurned_38, ↓s_Followers_canBeTurned_41, ↓s_Followers_canBeTurned_43, ↓s_Followers_canBeTurned_44, ↓s_Followers_canBeTurned_47, nI_leI, nI_ltI, nI_eq, N_z, nI_add, pk_sub, pk_mul, kL_i, kL_r, kL_d, kL_l, kL_k, kL_f, Option.toList_some, Option.toList_none, List.cons_append, List.nil_append, bI_z, N_and, N_or, N_shl, N_shr, Nat.one_mul, Nat.reduceAdd, lg_cmp_eq, L_and, L_or, bI_1, bI_0, if_true, if_false, reduceIte, N_m1x, ite_not, c_startOf c hP hr, c_endOf c hP hr]
    -- the loop over the options
    have loop : ∀ (n i : Nat) (g1 : Nat → Nat → Int32), i + n = on σ (Ls.getD P 0) (r + 1) → on σ (Ls.getD P 0) r ≤ i → (∀ k, k < 33 ∨ 38 ≤ k → g1 k = g k) → GI σ Ls a j g1 → (∀ x, on σ (Ls.getD P 0) r ≤ x → x < i → ¬ (AGM σ Ls (pu j (Ls.getD P 0) x) (a ||| 2 ^ P) r ∧ CTF σ Ls (a ||| 2 ^ P) s (P + 1) (pu j (Ls.getD P 0) x) r)) →
        wp X (d + m + 2 + 1) m_Followers_canBeTurned 49 [.ref 38, .int (nI r), .int (nI s), .int (nI f), .int (nI P), .int (nI 0), .int (nI (bas σ Ls P + on σ (Ls.getD P 0) (r + 1))), .int (nI (bas σ Ls P + i))] [] (HP g1 hj) Q := by
      intro n
      induction n with
      | zero =>
        intro i g1 hi hi2 f1 gi1 hno
        rw [s_Followers_canBeTurned_49]
        simp (disch := omega) only [↓s_Followers_canBeTurned_51, ↓s_Followers_canBeTurned_53, ↓s_Followers_canBeTurned_56, ↓s_Followers_canBeTurned_58, ↓s_Followers_canBeTurned_119, ↓s_Followers_canBeTurned_121_0, ↓s_Followers_canBeTurned_121_1, ↓s_Followers_canBeTurned_121_b, nI_leI, nI_ltI, nI_eq, N_z, nI_add, pk_sub, pk_mul, kL_i, kL_r, kL_d, kL_l, kL_k, kL_f, Option.toList_some, Option.toList_none, List.cons_append, List.nil_append, bI_z, N_and, N_or, N_shl, N_shr, Nat.one_mul, Nat.reduceAdd, lg_cmp_eq, L_and, L_or, bI_1, bI_0, if_true, if_false, reduceIte, N_m1x, ite_not, Nat.one_ne_zero, Nat.zero_ne_one, eq_self, not_true_eq_false, not_false_eq_true]
        rw [if_pos (by omega)]
        have := Kc g1 f1 gi1
        rw [bI_f (fun z => ?_)] at this
        · exact this
        · obtain ⟨x, x1, x2, x3, x4⟩ := stp.mp (cl_t.mp z)
          exact hno x x1 (by omega) ⟨x3, x4⟩
      | succ n ihn =>
        intro i g1 hi hi2 f1 gi1 hno
        have c1 := CP_cg c (g2 := g1) (fun k _ _ => f1 k (by omega))
        have i6 : i < on σ (Ls.getD P 0) 6 := by omega
        have iR : oR σ (Ls.getD P 0) i = r := (op_ring hr i6).mpr ⟨hi2, by omega⟩
        rw [s_Followers_canBeTurned_49]
        simp (disch := omega) only [↓s_Followers_canBeTurned_51, ↓s_Followers_canBeTurned_53, ↓s_Followers_canBeTurned_56, ↓s_Followers_canBeTurned_58, ↓s_Followers_canBeTurned_61, ↓s_Followers_canBeTurned_62, ↓s_Followers_canBeTurned_65, ↓s_Followers_canBeTurned_67, ↓s_Followers_canBeTurned_69, nI_leI, nI_ltI, nI_eq, N_z, nI_add, pk_sub, pk_mul, kL_i, kL_r, kL_d, kL_l, kL_k, kL_f, Option.toList_some, Option.toList_none, List.cons_append, List.nil_append, bI_z, N_and, N_or, N_shl, N_shr, Nat.one_mul, Nat.reduceAdd, lg_cmp_eq, L_and, L_or, bI_1, bI_0, if_true, if_false, reduceIte, N_m1x, ite_not, Nat.one_ne_zero, Nat.zero_ne_one, eq_self, not_true_eq_false, not_false_eq_true]
        rw [if_neg (by omega)]
        refine c_enter c1 gi1 hP haP i6 (fun g2 f2 gi2 => ?_)
        have c2 := CP_cg c1 (g2 := g2) (fun k _ _ => f2 k (by omega))
        simp (disch := omega) only [↓s_Followers_canBeTurned_72, ↓s_Followers_canBeTurned_73, ↓s_Followers_canBeTurned_76, ↓s_Followers_canBeTurned_78, nI_leI, nI_ltI, nI_eq, N_z, nI_add, pk_sub, pk_mul, kL_i, kL_r, kL_d, kL_l, kL_k, kL_f, Option.toList_some, Option.toList_none, List.cons_append, List.nil_append, bI_z, N_and, N_or, N_shl, N_shr, Nat.one_mul, Nat.reduceAdd, lg_cmp_eq, L_and, L_or, bI_1, bI_0, if_true, if_false, reduceIte, N_m1x, ite_not]
        have aP : (a ||| 2 ^ P).testBit P = true := by rw [or_tb]; simp
        have jP : pu j (Ls.getD P 0) i (Ls.getD P 0) = i := pu_s _ _ _
        have oth : AGL σ (pu j (Ls.getD P 0) i) (fun l => ∃ q, mbr σ Ls (pu j (Ls.getD P 0) i) (a ||| 2 ^ P) r q = true ∧ q ≠ P ∧ l = Ls.getD q 0) := by
          have ne : ∀ q, a.testBit q = true → q ≠ P → pu j (Ls.getD P 0) i (Ls.getD q 0) = j (Ls.getD q 0) := fun q h1 h2 => pu_n _ (L_ne nd (a_lt gi.1 h1) hP h2)
          refine AGL_cg (S := fun l => ∃ q, mbr σ Ls (pu j (Ls.getD P 0) i) (a ||| 2 ^ P) r q = true ∧ q ≠ P ∧ l = Ls.getD q 0) (AGL_sub ag (fun l hl => ?_)) (fun l hl => ?_)
          · obtain ⟨q, m1, m2, rfl⟩ := hl
            obtain ⟨m3, m4⟩ := mbr_a m1
            have m5 : a.testBit q = true := by rw [or_tb] at m3; simpa [Ne.symm m2] using m3
            refine ⟨q, ?_, rfl⟩
            unfold mbr
            rw [Bool.and_eq_true, decide_eq_true_eq]
            rw [ne q m5 m2] at m4
            exact ⟨m5, m4⟩
          · obtain ⟨q, m1, m2, rfl⟩ := hl
            obtain ⟨m3, m4⟩ := mbr_a m1
            have m5 : a.testBit q = true := by rw [or_tb] at m3; simpa [Ne.symm m2] using m3
            exact (ne q m5 m2).symm
        refine c_agree c2 gi2 aP (by rw [jP]; exact iR) oth (fun g3 f3 => ?_)
        have gi3 : GI σ Ls (a ||| 2 ^ P) (pu j (Ls.getD P 0) i) g3 := by
          unfold GI at gi2 ⊢
          rw [f3 33 (by omega), f3 34 (by omega), f3 35 (by omega), f3 36 (by omega)]
          exact gi2
        have c3 := CP_cg c2 (g2 := g3) (fun k _ _ => f3 k (by omega))
        have fr3 : ∀ k, k < 33 ∨ 38 ≤ k → g3 k = g k := fun k hk => by rw [f3 k (by omega), f2 k (by omega), f1 k hk]
        -- from the end of the turn on
        have fin : ∀ (b : Bool) (g4 : Nat → Nat → Int32), (∀ k, k < 33 ∨ 38 ≤ k → g4 k = g k) → GI σ Ls (a ||| 2 ^ P) (pu j (Ls.getD P 0) i) g4 → (b = true ↔ (AGM σ Ls (pu j (Ls.getD P 0) i) (a ||| 2 ^ P) r ∧ CTF σ Ls (a ||| 2 ^ P) s (P + 1) (pu j (Ls.getD P 0) i) r)) →
            wp X (d + m + 2 + 1) m_Followers_canBeTurned 102 [.ref 38, .int (nI r), .int (nI s), .int (nI f), .int (nI P), .int (nI 0), .int (nI (bas σ Ls P + on σ (Ls.getD P 0) (r + 1))), .int (nI (bas σ Ls P + i))] [.int (bI (b = true))] (HP g4 hj) Q := by
          intro b g4 f4 gi4 hb
          have c4 := CP_cg c (g2 := g4) (fun k _ _ => f4 k (by omega))
          simp (disch := omega) only [↓s_Followers_canBeTurned_102, ↓s_Followers_canBeTurned_104, ↓s_Followers_canBeTurned_105, ↓s_Followers_canBeTurned_108, ↓s_Followers_canBeTurned_110, nI_leI, nI_ltI, nI_eq, N_z, nI_add, pk_sub, pk_mul, kL_i, kL_r, kL_d, kL_l, kL_k, kL_f, Option.toList_some, Option.toList_none, List.cons_append, List.nil_append, bI_z, N_and, N_or, N_shl, N_shr, Nat.one_mul, Nat.reduceAdd, lg_cmp_eq, L_and, L_or, bI_1, bI_0, if_true, if_false, reduceIte, N_m1x, ite_not]
          refine c_leave c4 hP haP gi4 (fun g5 f5 gi5 => ?_)
          have gi6 : GI σ Ls a j g5 := GI_j gi5 (fun q hq => (pu_n _ (L_ne nd (a_lt gi.1 hq) hP (fun e => haP (e ▸ hq)))).symm)
          have fr5 : ∀ k, k < 33 ∨ 38 ≤ k → g5 k = g k := fun k hk => by rw [f5 k (by omega), f4 k hk]
          simp (disch := omega) only [↓s_Followers_canBeTurned_113, ↓s_Followers_canBeTurned_116, nI_leI, nI_ltI, nI_eq, N_z, nI_add, pk_sub, pk_mul, kL_i, kL_r, kL_d, kL_l, kL_k, kL_f, Option.toList_some, Option.toList_none, List.cons_append, List.nil_append, bI_z, N_and, N_or, N_shl, N_shr, Nat.one_mul, Nat.reduceAdd, lg_cmp_eq, L_and, L_or, bI_1, bI_0, if_true, if_false, reduceIte, N_m1x, ite_not, Nat.add_assoc]
          cases b
          · rw [bI_f (by simp)]
            refine ihn (i + 1) g5 (by omega) (by omega) fr5 gi6 (fun x x1 x2 => ?_)
            by_cases e : x = i
            · subst e; exact fun z => absurd (hb.mpr z) (by decide)
            · exact hno x x1 (by omega)
          · rw [bI_t rfl]
            rw [s_Followers_canBeTurned_49]
            simp (disch := omega) only [↓s_Followers_canBeTurned_51, ↓s_Followers_canBeTurned_53, ↓s_Followers_canBeTurned_56, ↓s_Followers_canBeTurned_58, ↓s_Followers_canBeTurned_119, ↓s_Followers_canBeTurned_121_0, ↓s_Followers_canBeTurned_121_1, ↓s_Followers_canBeTurned_121_b, nI_leI, nI_ltI, nI_eq, N_z, nI_add, pk_sub, pk_mul, kL_i, kL_r, kL_d, kL_l, kL_k, kL_f, Option.toList_some, Option.toList_none, List.cons_append, List.nil_append, bI_z, N_and, N_or, N_shl, N_shr, Nat.one_mul, Nat.reduceAdd, lg_cmp_eq, L_and, L_or, bI_1, bI_0, if_true, if_false, reduceIte, N_m1x, ite_not, Nat.one_ne_zero, Nat.zero_ne_one, eq_self, not_true_eq_false, not_false_eq_true, ite_self]
            have := Kc g5 fr5 gi6
            rw [bI_t (cl_t.mpr (stp.mpr ⟨i, hi2, by omega, hb.mp rfl⟩))] at this
            exact this
        simp (disch := omega) only [↓s_Followers_canBeTurned_81, ↓s_Followers_canBeTurned_84, ↓s_Followers_canBeTurned_85, ↓s_Followers_canBeTurned_86, ↓s_Followers_canBeTurned_87, ↓s_Followers_canBeTurned_89, ↓s_Followers_canBeTurned_90, ↓s_Followers_canBeTurned_91, nI_leI, nI_ltI, nI_eq, N_z, nI_add, pk_sub, pk_mul, kL_i, kL_r, kL_d, kL_l, kL_k, kL_f, Option.toList_some, Option.toList_none, List.cons_append, List.nil_append, bI_z, N_and, N_or, N_shl, N_shr, Nat.one_mul, Nat.reduceAdd, lg_cmp_eq, L_and, L_or, bI_1, bI_0, if_true, if_false, reduceIte, N_m1x, ite_not]
        by_cases hag : cl (AGM σ Ls (pu j (Ls.getD P 0) i) (a ||| 2 ^ P) r) = true
        case neg =>
          rw [if_neg hag]
          simp (disch := omega) only [↓s_Followers_canBeTurned_101]
          have := fin false g3 fr3 gi3 ⟨fun z => absurd z (by decide), fun z => absurd (cl_t.mpr z.1) hag⟩
          rw [bI_f (by simp)] at this
          exact this
        rw [if_pos hag]
        refine ih (P + 1) (a ||| 2 ^ P) (pu j (Ls.getD P 0) i) g3 d _ (by omega) (by omega) c3 gi3 (fun p p1 p2 p3 => ?_) (cl_t.mp hag) (fun g4 f4 gi4 => ?_)
        · rw [or_tb, Bool.or_eq_true, decide_eq_true_eq] at p3
          rcases p3 with p3 | p3
          · exact hsa p (by omega) p2 p3
          · omega
        · have fr4 : ∀ k, k < 33 ∨ 38 ≤ k → g4 k = g k := fun k hk => by rw [f4 k hk, fr3 k hk]
          simp (disch := omega) only [↓s_Followers_canBeTurned_94, ↓s_Followers_canBeTurned_97, ↓s_Followers_canBeTurned_98, ↓s_Followers_canBeTurned_101, nI_leI, nI_ltI, nI_eq, N_z, nI_add, pk_sub, pk_mul, kL_i, kL_r, kL_d, kL_l, kL_k, kL_f, Option.toList_some, Option.toList_none, List.cons_append, List.nil_append, bI_z, N_and, N_or, N_shl, N_shr, Nat.one_mul, Nat.reduceAdd, lg_cmp_eq, L_and, L_or, bI_1, bI_0, if_true, if_false, reduceIte, N_m1x, ite_not]
          by_cases hct : cl (CTF σ Ls (a ||| 2 ^ P) s (P + 1) (pu j (Ls.getD P 0) i) r) = true
          · rw [if_pos hct]
            have := fin true g4 fr4 gi4 ⟨fun _ => ⟨cl_t.mp hag, cl_t.mp hct⟩, fun _ => rfl⟩
            rw [bI_t rfl] at this
            exact this
          · rw [if_neg hct]
            have := fin false g4 fr4 gi4 ⟨fun z => absurd z (by decide), fun z => absurd (cl_t.mpr z.2) hct⟩
            rw [bI_f (by simp)] at this
            exact this
    exact loop (on σ (Ls.getD P 0) (r + 1) - on σ (Ls.getD P 0) r) (on σ (Ls.getD P 0) r) g (by omega) (Nat.le_refl _) (fun _ _ => rfl) gi (fun x x1 x2 => by omega)
end TRN
