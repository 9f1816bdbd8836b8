/-! canAllFollow; tables over a step -/
theorem ones_or (k : Nat) : 2 ^ k - 1 ||| 2 ^ k = 2 ^ (k + 1) - 1 := by
  apply Nat.eq_of_testBit_eq
  intro i
  rw [or_tb, Nat.testBit_two_pow_sub_one, Nat.testBit_two_pow_sub_one]
  by_cases h : i < k
  · simp [h, show i < k + 1 by omega]
  · by_cases h2 : k = i
    · simp [h2]
    · simp [h, h2, show ¬ i < k + 1 by omega]
theorem pf_tb {n k i : Nat} (h : k ≤ n) : (2 ^ n - 2 ^ k).testBit i = (decide (k ≤ i) && decide (i < n)) := by
  have e : 2 ^ n - 2 ^ k = (2 ^ (n - k) - 1) * 2 ^ k := by
    rw [Nat.sub_mul, ← Nat.pow_add, show n - k + k = n by omega, Nat.one_mul]
  rw [e, Nat.testBit_mul_two_pow, Nat.testBit_two_pow_sub_one]
  by_cases h1 : k ≤ i
  · simp [h1]
    omega
  · simp [h1]
section ALF
variable {X : AX} {d : Nat} {Q : Option Value → AH → Prop} {g : Nat → Nat → Int32} {hj : Nat → Nat → Int64} {σ : ST} {Ls : List Nat} {s r k : Nat} {j : Nat → Nat}
theorem CFl_f {A : Nat → Prop} {tk : Nat → Nat} {f : Nat} (h : ∀ p, s.testBit p = true → f ≤ p) : CFl σ Ls A j tk s f ↔ CFl σ Ls A j tk s 0 := by
  constructor
  · rintro ⟨fr, h1, h2⟩
    refine ⟨fr, fun p _ p2 p3 => h1 p (h p p3) p2 p3, fun r hr => CTP_sub (h2 r hr) (fun l hl => ?_)⟩
    rcases hl with hl | ⟨p, _, p2, p3, p4, p5⟩
    · exact Or.inl hl
    · exact Or.inr ⟨p, h p p3, p2, p3, p4, p5⟩
  · rintro ⟨fr, h1, h2⟩
    refine ⟨fr, fun p _ p2 p3 => h1 p (by omega) p2 p3, fun r hr => CTP_sub (h2 r hr) (fun l hl => ?_)⟩
    rcases hl with hl | ⟨p, _, p2, p3, p4, p5⟩
    · exact Or.inl hl
    · exact Or.inr ⟨p, by omega, p2, p3, p4, p5⟩
/-- where the search stands: led so far, tables, nothing taken -/
def SS1 (σ : ST) (Ls : List Nat) (k : Nat) (j : Nat → Nat) (g : Nat → Nat → Int32) : Prop := GI σ Ls (2 ^ k - 1) j g ∧ FT σ Ls k j g ∧ (∀ r, r < 6 → g 41 r = nI 0) ∧ ∀ r, r < 6 → AGM σ Ls j (2 ^ k - 1) r
theorem SS_R (h : GI σ Ls (2 ^ k - 1) j g) : ∀ l, inA Ls (2 ^ k - 1) l → oR σ l (j l) < 6 := by
  rintro l ⟨q, h1, rfl⟩
  exact (op_ok (h.2.2.1 q h1).2).1
abbrev EWk (σ : ST) (Ls : List Nat) (k s : Nat) (j : Nat → Nat) : Prop := EWp σ (inA Ls (2 ^ k - 1)) (inF Ls s 0) j
theorem EW_eq (c : CP σ Ls g hj) (hs : inK Ls k s) (hk : k ≤ Ls.length) (h : GI σ Ls (2 ^ k - 1) j g) : CFl σ Ls (inA Ls (2 ^ k - 1)) j (fun _ => 0) s 0 ↔ EWk σ Ls k s j := by
  refine CFl_EW c.2.2.1 (SS_R h) (fun l h1 h2 => ?_)
  obtain ⟨q, q1, q2⟩ := inA_k.mp h1
  obtain ⟨p, _, p2, p3, p4⟩ := h2
  have := gD_inj c.2.2.1 (show q < Ls.length by omega) p2 (q2.symm.trans p4)
  have := hs.2 p p3
  omega
theorem inK_0 : inK Ls k 0 := ⟨Nat.two_pow_pos _, fun p hp => by simp at hp⟩
theorem c_canAllFollow (hs : inK Ls k s) (hk : k ≤ Ls.length) (c : CP σ Ls g hj) (ss : SS1 σ Ls k j g)
    (Kc : ∀ g', (∀ i, i < 33 ∨ i = 38 ∨ i = 40 ∨ 42 ≤ i → g' i = g i) → SS1 σ Ls k j g' → Q (some (.int (bI (cl (EWk σ Ls k s j) = true)))) (HP g' hj)) : cwp X (d + 20) m_Followers_canAllFollow [.ref 38, .int (nI s)] (HP g hj) Q := by
  have hn := c.2.1
  have s16 : s < 65536 := Nat.lt_of_lt_of_le hs.1 (pow_le (show Ls.length ≤ 16 by omega))
  have tk0 : ∀ g', SS1 σ Ls k j g' → ∀ r, r < 6 → g' 41 r = nI 0 ∧ inK Ls k 0 ∧ CTP σ (inA Ls (2 ^ k - 1)) (inF Ls 0 0) j r := by
    intro g' s1 r hr
    refine ⟨s1.2.2.1 r hr, inK_0, CTP_0 (s1.2.2.2 r hr) (fun l hl => ?_)⟩
    obtain ⟨p, _, _, p3, _⟩ := hl
    simp at p3
  have loop : ∀ (m x : Nat) (g1 : Nat → Nat → Int32), x + m = Ls.length → (∀ i, i < 33 ∨ i = 38 ∨ i = 40 ∨ 42 ≤ i → g1 i = g i) → SS1 σ Ls k j g1 → wp X (d + 20) m_Followers_canAllFollow 2 [.ref 38, .int (nI s), .int (nI x)] [] (HP g1 hj) Q := by
    intro m
    induction m with
    | zero =>
      intro x g1 hx f1 s1
      have c1 := CP_cg c (g2 := g1) (fun i _ _ => f1 i (by omega))
      have e0 := c1.1.1
      have hxl : x = Ls.length := by omega
      subst hxl
      rw [s_Followers_canAllFollow_2]
      simp (disch := omega) only [↓s_Followers_canAllFollow_3, ↓s_Followers_canAllFollow_4, ↓s_Followers_canAllFollow_7, ↓s_Followers_canAllFollow_10, ↓s_Followers_canAllFollow_40, ↓s_Followers_canAllFollow_41, ↓s_Followers_canAllFollow_42, ↓s_Followers_canAllFollow_43, nI_leI, nI_ltI, nI_eq, N_z, nI_add, pk_sub, pk_mul, kL_i, kL_r, kL_d, kL_l, kL_k, kL_f, Option.toList_some, Option.toList_none, List.cons_append, List.nil_append, bI_z, N_and, N_or, N_shl, N_shr, Nat.one_mul, Nat.reduceAdd, lg_cmp_eq, L_and, L_or, bI_1, bI_0, if_true, if_false, reduceIte, N_m1x, ite_not, e0, Nat.le_refl]
      refine c_canFollow hs hk 8 0 (fun _ => 0) g1 d _ (by omega) (by omega) c1 s1.1 s1.2.1 (tk0 g1 s1) (fun g2 f2 gi2 ft2 t2 => ?_)
      simp (disch := omega) only [↓s_Followers_canAllFollow_46_0, ↓s_Followers_canAllFollow_46_1, ↓s_Followers_canAllFollow_46_b, nI_leI, nI_ltI, nI_eq, N_z, nI_add, pk_sub, pk_mul, kL_i, kL_r, kL_d, kL_l, kL_k, kL_f, Option.toList_some, Option.toList_none, List.cons_append, List.nil_append, bI_z, N_and, N_or, N_shl, N_shr, Nat.one_mul, Nat.reduceAdd, lg_cmp_eq, L_and, L_or, bI_1, bI_0, if_true, if_false, reduceIte, N_m1x, ite_not]
      rw [cl_cg (EW_eq c1 hs hk s1.1)]
      exact Kc g2 (fun i hi => by rw [f2 i hi, f1 i hi]) ⟨gi2, ft2, t2, s1.2.2.2⟩
    | succ m ih =>
      intro x g1 hx f1 s1
      have c1 := CP_cg c (g2 := g1) (fun i _ _ => f1 i (by omega))
      have e0 := c1.1.1
      rw [s_Followers_canAllFollow_2]
      simp (disch := omega) only [↓s_Followers_canAllFollow_3, ↓s_Followers_canAllFollow_4, ↓s_Followers_canAllFollow_7, ↓s_Followers_canAllFollow_10, ↓s_Followers_canAllFollow_13, ↓s_Followers_canAllFollow_14, ↓s_Followers_canAllFollow_15, ↓s_Followers_canAllFollow_18, ↓s_Followers_canAllFollow_21, ↓s_Followers_canAllFollow_22, ↓s_Followers_canAllFollow_23, ↓s_Followers_canAllFollow_24, ↓s_Followers_canAllFollow_25, ↓s_Followers_canAllFollow_26, nI_leI, nI_ltI, nI_eq, N_z, nI_add, pk_sub, pk_mul, kL_i, kL_r, kL_d, kL_l, kL_k, kL_f, Option.toList_some, Option.toList_none, List.cons_append, List.nil_append, bI_z, N_and, N_or, N_shl, N_shr, Nat.one_mul, Nat.reduceAdd, lg_cmp_eq, L_and, L_or, bI_1, bI_0, if_true, if_false, reduceIte, N_m1x, ite_not, e0, c_C_hasBit]
      rw [if_neg (by omega)]
      by_cases hb : s.testBit x = true
      case neg =>
        rw [if_neg hb]
        simp (disch := omega) only [↓s_Followers_canAllFollow_34, ↓s_Followers_canAllFollow_37, nI_leI, nI_ltI, nI_eq, N_z, nI_add, pk_sub, pk_mul, kL_i, kL_r, kL_d, kL_l, kL_k, kL_f, Option.toList_some, Option.toList_none, List.cons_append, List.nil_append, bI_z, N_and, N_or, N_shl, N_shr, Nat.one_mul, Nat.reduceAdd, lg_cmp_eq, L_and, L_or, bI_1, bI_0, if_true, if_false, reduceIte, N_m1x, ite_not]
        exact ih (x + 1) g1 (by omega) f1 s1
      rw [if_pos hb]
      have hkx := hs.2 x hb
      have hsx : inK Ls k (2 ^ x) := ⟨Nat.pow_lt_pow_right (by omega) (by omega), fun p hp => by rw [Nat.testBit_two_pow, decide_eq_true_eq] at hp; omega⟩
      refine c_canFollow hsx hk 8 x (fun _ => 0) g1 d _ (by omega) (by omega) c1 s1.1 s1.2.1 (tk0 g1 s1) (fun g2 f2 gi2 ft2 t2 => ?_)
      have fr : ∀ i, i < 33 ∨ i = 38 ∨ i = 40 ∨ 42 ≤ i → g2 i = g i := fun i hi => by rw [f2 i hi, f1 i hi]
      have s2 : SS1 σ Ls k j g2 := ⟨gi2, ft2, t2, s1.2.2.2⟩
      simp (disch := omega) only [↓s_Followers_canAllFollow_29, ↓s_Followers_canAllFollow_32, ↓s_Followers_canAllFollow_33_0, ↓s_Followers_canAllFollow_33_1, ↓s_Followers_canAllFollow_33_b, nI_leI, nI_ltI, nI_eq, N_z, nI_add, pk_sub, pk_mul, kL_i, kL_r, kL_d, kL_l, kL_k, kL_f, Option.toList_some, Option.toList_none, List.cons_append, List.nil_append, bI_z, N_and, N_or, N_shl, N_shr, Nat.one_mul, Nat.reduceAdd, lg_cmp_eq, L_and, L_or, bI_1, bI_0, if_true, if_false, reduceIte, N_m1x, ite_not]
      by_cases hcf : cl (CFl σ Ls (inA Ls (2 ^ k - 1)) j (fun _ => 0) (2 ^ x) x) = true
      · rw [if_pos hcf]
        simp (disch := omega) only [↓s_Followers_canAllFollow_34, ↓s_Followers_canAllFollow_37, nI_leI, nI_ltI, nI_eq, N_z, nI_add, pk_sub, pk_mul, kL_i, kL_r, kL_d, kL_l, kL_k, kL_f, Option.toList_some, Option.toList_none, List.cons_append, List.nil_append, bI_z, N_and, N_or, N_shl, N_shr, Nat.one_mul, Nat.reduceAdd, lg_cmp_eq, L_and, L_or, bI_1, bI_0, if_true, if_false, reduceIte, N_m1x, ite_not]
        exact ih (x + 1) g2 (by omega) fr s2
      · rw [if_neg hcf]
        have := Kc g2 fr s2
        rw [bI_f (fun z => ?_)] at this
        · exact this
        · apply hcf
          apply cl_t.mpr
          rw [CFl_f (fun p hp => by rw [Nat.testBit_two_pow, decide_eq_true_eq] at hp; omega), EW_eq c1 hsx hk s1.1]
          refine EWp_sub (cl_t.mp z) (fun l hl => ?_)
          obtain ⟨p, p1, p2, p3, p4⟩ := hl
          rw [Nat.testBit_two_pow, decide_eq_true_eq] at p3
          subst p3
          exact ⟨x, by omega, p2, hb, p4⟩
  simp only [e_Followers_canAllFollow, ↓s_Followers_canAllFollow_0, ↓s_Followers_canAllFollow_1, kL_i]
  exact loop Ls.length 0 g (by omega) (fun _ _ => rfl) ss
theorem lvq_cg {j2 : Nat → Nat} {c : Nat} (h : ∀ q, q < k → j2 (Ls.getD q 0) = j (Ls.getD q 0)) (hc : c ≤ k) : lvq σ Ls j2 r c ↔ lvq σ Ls j r c := by
  unfold lvq
  by_cases h0 : c = 0
  · simp [h0]
  · rw [h (c - 1) (by omega)]
theorem CTPk_cg {j2 : Nat → Nat} {c : Nat} {S : Nat → Prop} (h : ∀ q, q < k → j2 (Ls.getD q 0) = j (Ls.getD q 0)) (hc : c ≤ k) : CTP σ (inA Ls (2 ^ c - 1)) S j2 r ↔ CTP σ (inA Ls (2 ^ c - 1)) S j r := by
  refine CTP_cg (fun l => ?_) (fun l hl _ => ?_) (fun _ => Iff.rfl)
  · constructor
    · rintro ⟨h1, h2⟩
      obtain ⟨q, q1, rfl⟩ := inA_k.mp h1
      rw [h q (by omega)] at h2
      exact ⟨h1, h2⟩
    · rintro ⟨h1, h2⟩
      obtain ⟨q, q1, rfl⟩ := inA_k.mp h1
      rw [← h q (by omega)] at h2
      exact ⟨h1, h2⟩
  · obtain ⟨q, q1, rfl⟩ := inA_k.mp hl
    exact (h q (by omega)).symm
theorem rdTb_cg {j2 : Nat → Nat} {c : Nat} (h : ∀ q, q < k → j2 (Ls.getD q 0) = j (Ls.getD q 0)) (hc : c ≤ k) (hr : rdTb g σ Ls (inA Ls (2 ^ c - 1)) j r c) : rdTb g σ Ls (inA Ls (2 ^ c - 1)) j2 r c := by
  intro x hx
  rcases hr x hx with h1 | ⟨h1, h2⟩ | ⟨h1, h2⟩
  · exact Or.inl h1
  · exact Or.inr (Or.inl ⟨h1, (CTPk_cg h hc).mpr h2⟩)
  · exact Or.inr (Or.inr ⟨h1, fun z => h2 ((CTPk_cg h hc).mp z)⟩)
/-- the tables after a place more was led to a ring -/
theorem FT_ch {j2 : Nat → Nat} {F : Nat} {g2 : Nat → Nat → Int32} (hk : k < 8) (h : FT σ Ls k j g) (hr : r < 6) (hj2 : ∀ q, q < k → j2 (Ls.getD q 0) = j (Ls.getD q 0)) (hR : oR σ (Ls.getD k 0) (j2 (Ls.getD k 0)) = r) (hF : F = r * 512 + (512 - 512 / 2 ^ (k + 1))) (e1 : g2 40 r = nI (k + 1)) (e2 : ∀ x, x ≠ r → g2 40 x = g 40 x) (e3 : ∀ x, x < 2 ^ (8 - (k + 1)) → g2 39 (F + x) = nI 0) (e4 : ∀ i, i < F ∨ F + 2 ^ (8 - (k + 1)) ≤ i → g2 39 i = g 39 i) : FT σ Ls (k + 1) j2 g2 := by
  refine ⟨fun q hq => ?_, fun q hq c hc hl => ?_⟩
  · by_cases e : q = r
    · subst e
      exact ⟨k + 1, Nat.le_refl _, e1, Or.inr (by rw [Nat.add_sub_cancel]; exact hR), fun z z1 z2 => by omega⟩
    · obtain ⟨c, c1, c2, c3, c4⟩ := h.1 q hq
      refine ⟨c, by omega, by rw [e2 q e]; exact c2, (lvq_cg hj2 c1).mpr c3, fun z z1 z2 => ?_⟩
      by_cases ez : z = k
      · subst ez; rw [hR]; exact Ne.symm e
      · rw [hj2 z (by omega)]; exact c4 z z1 (by omega)
  · by_cases ec : c = k + 1
    · subst ec
      have eq : q = r := by
        rcases hl with hl | hl
        · omega
        · rw [Nat.add_sub_cancel, hR] at hl; exact hl.symm
      subst eq
      intro x hx
      exact Or.inl (by rw [← hF]; exact e3 x hx)
    · have hck : c ≤ k := by omega
      have old := rdTb_cg (j2 := j2) hj2 hck (h.2 q hq c hck ((lvq_cg hj2 hck).mp hl))
      intro x hx
      have ei : g2 39 (q * 512 + (512 - 512 / 2 ^ c) + x) = g 39 (q * 512 + (512 - 512 / 2 ^ c) + x) := by
        apply e4
        have t1 := tof_lt (show c ≤ 8 by omega) hx
        have t2 := tof_mono (show c < k + 1 by omega) (by omega)
        have p1 : 1 ≤ 2 ^ (8 - (k + 1)) := Nat.one_le_two_pow
        have t3 := tof_lt (c := k + 1) (s := 2 ^ (8 - (k + 1)) - 1) (by omega) (by omega)
        rw [hF]
        rcases Nat.lt_trichotomy q r with hh | hh | hh
        · exact Or.inl (by omega)
        · subst hh; exact Or.inl (by omega)
        · exact Or.inr (by omega)
      rw [ei]
      exact old x hx
theorem FT_back {j2 : Nat → Nat} {c0 : Nat} {g2 : Nat → Nat → Int32} (h : FT σ Ls (k + 1) j2 g) (hj2 : ∀ q, q < k → j2 (Ls.getD q 0) = j (Ls.getD q 0)) (hR : oR σ (Ls.getD k 0) (j2 (Ls.getD k 0)) = r) (h0 : c0 ≤ k ∧ lvq σ Ls j r c0 ∧ ∀ q, c0 ≤ q → q < k → oR σ (Ls.getD q 0) (j (Ls.getD q 0)) ≠ r) (e1 : g2 40 r = nI c0) (e2 : ∀ x, x ≠ r → g2 40 x = g 40 x) (e3 : g2 39 = g 39) : FT σ Ls k j g2 := by
  refine ⟨fun q hq => ?_, fun q hq c hc hl => ?_⟩
  · by_cases e : q = r
    · subst e
      exact ⟨c0, h0.1, e1, h0.2⟩
    · obtain ⟨c, c1, c2, c3, c4⟩ := h.1 q hq
      have hck : c ≤ k := by
        by_cases ec : c = k + 1
        · subst ec
          rcases c3 with c3 | c3
          · omega
          · rw [Nat.add_sub_cancel, hR] at c3; exact absurd c3.symm e
        · omega
      refine ⟨c, hck, by rw [e2 q e]; exact c2, (lvq_cg hj2 hck).mp c3, fun z z1 z2 => ?_⟩
      rw [← hj2 z z2]
      exact c4 z z1 (by omega)
  · have old := h.2 q hq c (by omega) ((lvq_cg hj2 hc).mpr hl)
    have := rdTb_cg (j2 := j) (fun z hz => (hj2 z hz).symm) hc old
    unfold rdTb at this ⊢
    rw [e3]
    exact this
end ALF
