/-! leave; the lowest bit -/
section LEA
variable {X : AX} {d : Nat} {Q : Option Value → AH → Prop} {g0 : Nat → Nat → Int32} {hj : Nat → Nat → Int64} {σ : ST} {Ls : List Nat} {j : Nat → Nat} {a P i : Nat}
theorem l_leave {u : Nat} {B A : Nat → Nat} (c0 : CP σ Ls g0 hj) (hP : P < Ls.length) (hu : u = 2 ^ P ^^^ 4294967295) (hB : ∀ q, q < 8 → g0 35 q = nI (B q)) (hA : ∀ q, q < 8 → g0 36 q = nI (A q))
    (Kc : ∀ g, (∀ k, k ≠ 35 → k ≠ 36 → g k = g0 k) → (∀ q, q < Ls.length → g 35 q = nI (B q &&& u) ∧ g 36 q = nI (A q &&& u)) → (∀ q, Ls.length ≤ q → g 35 q = g0 35 q ∧ g 36 q = g0 36 q) → wp X d m_Groups_leave 85 [.ref 32, .int (nI P), .int (nI u), .int (nI Ls.length)] [] (HP g hj) Q) :
    ∀ (m x : Nat) (g : Nat → Nat → Int32), x + m = Ls.length → (∀ k, k ≠ 35 → k ≠ 36 → g k = g0 k) → (∀ q, q < x → g 35 q = nI (B q &&& u) ∧ g 36 q = nI (A q &&& u)) → (∀ q, x ≤ q → g 35 q = g0 35 q ∧ g 36 q = g0 36 q) →
    wp X d m_Groups_leave 48 [.ref 32, .int (nI P), .int (nI u), .int (nI x)] [] (HP g hj) Q
  | 0, x, g, hx, e1, e2, e3 => by
    have hn := c0.2.1
    have e0 : g 24 2 = nI Ls.length := by rw [e1 24 (by omega) (by omega)]; exact c0.1.1
    have : x = Ls.length := by omega
    subst this
    rw [s_Groups_leave_48]
    simp (disch := omega) only [↓s_Groups_leave_49, ↓s_Groups_leave_50, ↓s_Groups_leave_53, ↓s_Groups_leave_56, nI_leI, nI_ltI, nI_eq, N_z, nI_add, pk_sub, pk_mul, kL_i, kL_r, kL_d, kL_l, kL_k, kL_f, Option.toList_some, Option.toList_none, List.cons_append, List.nil_append, bI_z, N_and, N_or, N_shl, N_shr, Nat.one_mul, Nat.reduceAdd, lg_cmp_eq, L_and, L_or, bI_1, bI_0, if_true, if_false, reduceIte, N_m1x, ite_not, e0, Nat.le_refl]
    exact Kc g e1 e2 e3
  | m + 1, x, g, hx, e1, e2, e3 => by
    have hn := c0.2.1
    have e0 : g 24 2 = nI Ls.length := by rw [e1 24 (by omega) (by omega)]; exact c0.1.1
    have z1 : g 35 x = nI (B x) := by rw [(e3 x (Nat.le_refl _)).1]; exact hB x (by omega)
    have z2 : g 36 x = nI (A x) := by rw [(e3 x (Nat.le_refl _)).2]; exact hA x (by omega)
    rw [s_Groups_leave_48]
    simp (disch := omega) only [↓s_Groups_leave_49, ↓s_Groups_leave_50, ↓s_Groups_leave_53, ↓s_Groups_leave_56, ↓s_Groups_leave_59, ↓s_Groups_leave_60, ↓s_Groups_leave_63, ↓s_Groups_leave_64, ↓s_Groups_leave_65, ↓s_Groups_leave_66, ↓s_Groups_leave_67, ↓s_Groups_leave_68, ↓s_Groups_leave_69, ↓s_Groups_leave_70, ↓s_Groups_leave_73, ↓s_Groups_leave_74, ↓s_Groups_leave_75, ↓s_Groups_leave_76, ↓s_Groups_leave_77, ↓s_Groups_leave_78, ↓s_Groups_leave_79, ↓s_Groups_leave_82, nI_leI, nI_ltI, nI_eq, N_z, nI_add, pk_sub, pk_mul, kL_i, kL_r, kL_d, kL_l, kL_k, kL_f, Option.toList_some, Option.toList_none, List.cons_append, List.nil_append, bI_z, N_and, N_or, N_shl, N_shr, Nat.one_mul, Nat.reduceAdd, lg_cmp_eq, L_and, L_or, bI_1, bI_0, if_true, if_false, reduceIte, N_m1x, ite_not, u2_s, u2_n, u2_m, e0, z1, z2]
    rw [if_neg (by omega)]
    refine l_leave c0 hP hu hB hA Kc m (x + 1) _ (by omega) (fun k k1 k2 => ?_) (fun q hq => ?_) (fun q hq => ?_)
    · rw [u2_r _ _ _ k2, u2_r _ _ _ k1]; exact e1 k k1 k2
    · by_cases e : q = x
      · subst e
        simp (disch := omega) only [u2_s, u2_n, u2_m]
        exact ⟨trivial, trivial⟩
      · simp (disch := omega) only [u2_s, u2_n, u2_m]
        exact e2 q (by omega)
    · simp (disch := omega) only [u2_s, u2_n, u2_m]
      exact e3 q (by omega)
theorem c_leave (c0 : CP σ Ls g0 hj) (hP : P < Ls.length) (haP : ¬ a.testBit P = true) (gi : GI σ Ls (a ||| 2 ^ P) j g0)
    (Kc : ∀ g, (∀ k, k < 33 ∨ 37 ≤ k → g k = g0 k) → GI σ Ls a j g → Q none (HP g hj)) : cwp X d m_Groups_leave [.ref 32, .int (nI P)] (HP g0 hj) Q := by
  have hn := c0.2.1
  obtain ⟨g1, g2, g3, g4⟩ := gi
  have aP : ∀ q, (a ||| 2 ^ P).testBit q = (a.testBit q || decide (P = q)) := fun q => or_tb a P q
  have haF : a.testBit P = false := by simpa using haP
  obtain ⟨c1, c2⟩ := g3 P (by rw [aP]; simp)
  obtain ⟨p1, p2, p3, p4, p5, p6, p7, p8⟩ := CP_rd c0 hP c2
  have em := g2 _ p7
  obtain ⟨b1, b2⟩ := g4 P (by omega)
  have al : a < 2 ^ Ls.length := by
    have : a ≤ a ||| 2 ^ P := Nat.left_le_or
    omega
  generalize hR : oR σ (Ls.getD P 0) (j (Ls.getD P 0)) = R at *
  have mem : ∀ r, r < 6 → up2 g0 34 R (nI (bts (mbr σ Ls j (a ||| 2 ^ P) R) 8 &&& (2 ^ P ^^^ 4294967295))) 34 r = nI (bts (mbr σ Ls j a r) 8) := by
    intro r hr
    by_cases e : r = R
    · subst e
      rw [u2_s]
      congr 1
      symm
      refine bts_clr (by omega) (by omega) (fun q hq => ?_)
      unfold mbr
      rw [aP]
      by_cases e2 : q = P
      · subst e2; simp [haF]
      · simp [e2, Ne.symm e2]
    · rw [u2_m _ _ _ _ e, g2 r hr]
      congr 1
      refine bts_cg 8 (fun q hq => ?_)
      unfold mbr
      rw [aP]
      by_cases e2 : q = P
      · subst e2
        rw [hR]; simp [haF, Ne.symm e]
      · simp [Ne.symm e2]
  have l1 := bts_16 (fun p => (a ||| 2 ^ P).testBit P && (a ||| 2 ^ P).testBit p && rel σ Ls j p P) (show 8 ≤ 16 by omega)
  have l2 := bts_16 (fun p => (a ||| 2 ^ P).testBit P && (a ||| 2 ^ P).testBit p && rel σ Ls j P p) (show 8 ≤ 16 by omega)
  have l3 := Nat.or_lt_two_pow (n := 16) l1 l2
  simp (disch := omega) only [e_Groups_leave, ↓s_Groups_leave_0, ↓s_Groups_leave_1, ↓s_Groups_leave_2, ↓s_Groups_leave_3, ↓s_Groups_leave_4, ↓s_Groups_leave_5, ↓s_Groups_leave_6, ↓s_Groups_leave_7, ↓s_Groups_leave_10, ↓s_Groups_leave_11, ↓s_Groups_leave_14, ↓s_Groups_leave_17, ↓s_Groups_leave_18, ↓s_Groups_leave_21, ↓s_Groups_leave_22, ↓s_Groups_leave_23, ↓s_Groups_leave_24, ↓s_Groups_leave_25, ↓s_Groups_leave_26, ↓s_Groups_leave_27, ↓s_Groups_leave_28, ↓s_Groups_leave_29, ↓s_Groups_leave_30, ↓s_Groups_leave_33, ↓s_Groups_leave_34, ↓s_Groups_leave_35, ↓s_Groups_leave_36, ↓s_Groups_leave_39, ↓s_Groups_leave_40, ↓s_Groups_leave_41, ↓s_Groups_leave_42, ↓s_Groups_leave_45, nI_leI, nI_ltI, nI_eq, N_z, nI_add, pk_sub, pk_mul, kL_i, kL_r, kL_d, kL_l, kL_k, kL_f, Option.toList_some, Option.toList_none, List.cons_append, List.nil_append, bI_z, N_and, N_or, N_shl, N_shr, Nat.one_mul, Nat.reduceAdd, lg_cmp_eq, L_and, L_or, bI_1, bI_0, if_true, if_false, reduceIte, N_m1x, ite_not, u2_s, u2_n, u2_m, c1, p2, em, b1, b2]
  have chs : ∀ g' : Nat → Nat → Int32, g' 33 = g0 33 → ∀ q, a.testBit q = true → g' 33 q = nI (bas σ Ls q + j (Ls.getD q 0)) ∧ j (Ls.getD q 0) < on σ (Ls.getD q 0) 6 := by
    intro g' e q hq
    rw [e]
    exact g3 q (by rw [aP, hq]; rfl)
  by_cases h0 : bts (fun p => (a ||| 2 ^ P).testBit P && (a ||| 2 ^ P).testBit p && rel σ Ls j p P) 8 ||| bts (fun p => (a ||| 2 ^ P).testBit P && (a ||| 2 ^ P).testBit p && rel σ Ls j P p) 8 = 0
  · rw [if_pos h0]
    have nob : ∀ p, p < 8 → a.testBit p = true → rel σ Ls j p P = false ∧ rel σ Ls j P p = false := by
      intro p hp hap
      have t := congrArg (fun z => Nat.testBit z p) h0
      simp only [Nat.testBit_or, bts_tb, Nat.zero_testBit, aP] at t
      simp [hp, hap] at t
      exact t
    refine Kc _ (fun k hk => by rw [u2_r _ _ _ (by omega)]) ⟨al, mem, chs _ (u2_r _ _ _ (by omega)), fun q hq => ?_⟩
    obtain ⟨z1, z2⟩ := g4 q hq
    simp (disch := omega) only [u2_n]
    rw [z1, z2]
    constructor
    · congr 1
      refine bts_cg 8 (fun p hp => ?_)
      rw [aP, aP]
      by_cases e2 : q = P
      · subst e2
        by_cases e3 : a.testBit p = true
        · simp [haF, (nob p hp e3).1]
        · by_cases e4 : p = q
          · subst e4; simp [rel]
          · simp [e3, Ne.symm e4]
      · by_cases e3 : p = P
        · subst e3
          by_cases e4 : a.testBit q = true
          · simp [haF, (nob q hq e4).2]
          · simp [e4, Ne.symm e2]
        · simp [Ne.symm e2, Ne.symm e3]
    · congr 1
      refine bts_cg 8 (fun p hp => ?_)
      rw [aP, aP]
      by_cases e2 : q = P
      · subst e2
        by_cases e3 : a.testBit p = true
        · simp [haF, (nob p hp e3).2]
        · by_cases e4 : p = q
          · subst e4; simp [rel]
          · simp [e3, Ne.symm e4]
      · by_cases e3 : p = P
        · subst e3
          by_cases e4 : a.testBit q = true
          · simp [haF, (nob q hq e4).1]
          · simp [e4, Ne.symm e2]
        · simp [Ne.symm e2, Ne.symm e3]
  · rw [if_neg h0]
    simp (disch := omega) only [↓s_Groups_leave_46, ↓s_Groups_leave_47, kL_i]
    have cN : CP σ Ls (up2 g0 34 R (nI (bts (mbr σ Ls j (a ||| 2 ^ P) R) 8 &&& (2 ^ P ^^^ 4294967295)))) hj := CP_cg c0 (fun k _ _ => u2_r _ _ _ (by omega))
    refine l_leave (g0 := up2 g0 34 R (nI (bts (mbr σ Ls j (a ||| 2 ^ P) R) 8 &&& (2 ^ P ^^^ 4294967295)))) (B := fun q => bts (fun p => (a ||| 2 ^ P).testBit q && (a ||| 2 ^ P).testBit p && rel σ Ls j p q) 8) (A := fun q => bts (fun p => (a ||| 2 ^ P).testBit q && (a ||| 2 ^ P).testBit p && rel σ Ls j q p) 8) cN hP rfl (fun q hq => by rw [u2_n _ _ _ _ (by omega)]; exact (g4 q hq).1) (fun q hq => by rw [u2_n _ _ _ _ (by omega)]; exact (g4 q hq).2) (fun g e1 e2 e3 => ?_) Ls.length 0 _ (by omega) (fun _ _ _ => rfl) (fun q hq => by omega) (fun q hq => ⟨rfl, rfl⟩)
    simp (disch := omega) only [↓s_Groups_leave_85, ↓s_Groups_leave_86, ↓s_Groups_leave_89, ↓s_Groups_leave_90, ↓s_Groups_leave_91, ↓s_Groups_leave_92, ↓s_Groups_leave_93, ↓s_Groups_leave_96, ↓s_Groups_leave_97, ↓s_Groups_leave_98, ↓s_Groups_leave_99, nI_leI, nI_ltI, nI_eq, N_z, nI_add, pk_sub, pk_mul, kL_i, kL_r, kL_d, kL_l, kL_k, kL_f, Option.toList_some, Option.toList_none, List.cons_append, List.nil_append, bI_z, N_and, N_or, N_shl, N_shr, Nat.one_mul, Nat.reduceAdd, lg_cmp_eq, L_and, L_or, bI_1, bI_0, if_true, if_false, reduceIte, N_m1x, ite_not]
    refine Kc _ (fun k hk => ?_) ⟨al, fun r hr => ?_, chs _ ?_, fun q hq => ?_⟩
    · simp (disch := omega) only [u2_r]
      rw [e1 k (by omega) (by omega), u2_r _ _ _ (by omega)]
    · simp (disch := omega) only [u2_n]
      rw [e1 34 (by omega) (by omega)]
      exact mem r hr
    · simp (disch := omega) only [u2_r]
      rw [e1 33 (by omega) (by omega), u2_r _ _ _ (by omega)]
    · by_cases e : q = P
      · subst e
        simp (disch := omega) only [u2_s, u2_n, u2_m]
        have zf : ∀ f : Nat → Bool, nI 0 = nI (bts (fun p => a.testBit q && a.testBit p && f p) 8) := by
          intro f
          rw [haF]
          have : bts (fun p => false && a.testBit p && f p) 8 = 0 := by
            rw [bts_cg (q := fun _ => false) 8 (fun i hi => by simp)]
            rfl
          rw [this]
        exact ⟨zf _, zf _⟩
      · simp (disch := omega) only [u2_s, u2_n, u2_m]
        by_cases hl : q < Ls.length
        · obtain ⟨z1, z2⟩ := e2 q hl
          rw [z1, z2]
          constructor
          · congr 1
            symm
            refine bts_clr (by omega) (by omega) (fun p hp => ?_)
            rw [aP, aP]
            by_cases e3 : p = P
            · subst e3; simp [haF]
            · simp [e3, Ne.symm e3, Ne.symm e]
          · congr 1
            symm
            refine bts_clr (by omega) (by omega) (fun p hp => ?_)
            rw [aP, aP]
            by_cases e3 : p = P
            · subst e3; simp [haF]
            · simp [e3, Ne.symm e3, Ne.symm e]
        · obtain ⟨z1, z2⟩ := e3 q (by omega)
          obtain ⟨y1, y2⟩ := g4 q hq
          have aq : a.testBit q = false := lt_tb al (by omega)
          rw [z1, z2, u2_n _ _ _ _ (by omega), u2_n _ _ _ _ (by omega), y1, y2]
          constructor
          · congr 1
            refine bts_cg 8 (fun p hp => ?_)
            rw [aP]
            simp [aq, show P ≠ q by omega]
          · congr 1
            refine bts_cg 8 (fun p hp => ?_)
            rw [aP]
            simp [aq, show P ≠ q by omega]
/-- the lowest bit -/
theorem low_ex {x : Nat} (h : x ≠ 0) : ∃ k, x.testBit k = true ∧ ∀ i, i < k → x.testBit i = false := by
  have hex : ∃ k, x.testBit k = true := by
    by_cases hh : ∃ k, x.testBit k = true
    · exact hh
    · exfalso
      apply h
      apply Nat.eq_of_testBit_eq
      intro i
      rw [Nat.zero_testBit]
      by_cases hb : x.testBit i = true
      · exact absurd ⟨i, hb⟩ hh
      · simpa using hb
  have key : ∀ n, (∃ k, k < n ∧ x.testBit k = true) → ∃ k, x.testBit k = true ∧ ∀ i, i < k → x.testBit i = false := by
    intro n
    induction n with
    | zero => rintro ⟨k, h1, _⟩; omega
    | succ n ih =>
      rintro ⟨k, h1, h2⟩
      by_cases h3 : ∃ k, k < n ∧ x.testBit k = true
      · exact ih h3
      · refine ⟨k, h2, fun i hi => ?_⟩
        by_cases hb : x.testBit i = true
        · exact absurd ⟨i, by omega, hb⟩ h3
        · simpa using hb
  obtain ⟨k, hk⟩ := hex
  exact key (k + 1) ⟨k, by omega, hk⟩
theorem low_dec {x k : Nat} (h1 : x.testBit k = true) (h2 : ∀ i, i < k → x.testBit i = false) : ∃ m, x = 2 ^ k * (2 * m + 1) := by
  have e1 : x % 2 ^ k = 0 := by
    apply Nat.eq_of_testBit_eq
    intro i
    rw [Nat.zero_testBit, Nat.testBit_mod_two_pow]
    by_cases hi : i < k
    · simp [h2 i hi]
    · simp [hi]
  have e2 : x / 2 ^ k % 2 = 1 := by rw [tb_dm]; exact h1
  refine ⟨x / 2 ^ k / 2, ?_⟩
  have e3 := Nat.div_add_mod x (2 ^ k)
  rw [e1, Nat.add_zero] at e3
  have e4 : 2 * (x / 2 ^ k / 2) + 1 = x / 2 ^ k := by omega
  rw [e4]
  exact e3.symm
theorem low_and {x k : Nat} (hx : x < 1152921504606846976) (h1 : x.testBit k = true) (h2 : ∀ i, i < k → x.testBit i = false) : lN x &&& -lN x = lN (2 ^ k) := by
  obtain ⟨m, hm⟩ := low_dec h1 h2
  have hk : 0 < 2 ^ k := Nat.two_pow_pos k
  have hx0 : 0 < x := by
    rw [hm]
    exact Nat.mul_pos hk (by omega)
  have e1 : -lN x = lN (18446744073709551616 - x) := by
    apply Int64.toBitVec_inj.mp
    apply BitVec.eq_of_toNat_eq
    show (-(BitVec.ofNat 64 x)).toNat = (BitVec.ofNat 64 (18446744073709551616 - x)).toNat
    rw [BitVec.toNat_neg, BitVec.toNat_ofNat, BitVec.toNat_ofNat]
    omega
  rw [e1, L_and]
  congr 1
  apply Nat.eq_of_testBit_eq
  intro i
  have e2 : 18446744073709551616 - x = 2 ^ 64 - ((x - 1) + 1) := by omega
  have e3 : x - 1 = 2 ^ k * (2 * m) + (2 ^ k - 1) := by
    rw [hm, Nat.mul_add, Nat.mul_one]
    omega
  rw [Nat.testBit_and, e2, Nat.testBit_two_pow_sub_succ (by omega), e3, Nat.testBit_two_pow_mul_add _ (by omega), Nat.testBit_two_pow]
  by_cases hi : i < k
  · rw [h2 i hi]; simp [show k ≠ i by omega]
  · rw [if_neg hi]
    by_cases he : i = k
    · subst he
      have h64 : i < 64 := by
        by_cases hh : i < 64
        · exact hh
        · have := lt_tb (a := x) (c := 64) (i := i) (by omega) (by omega)
          rw [this] at h1
          exact absurd h1 (by decide)
      rw [h1]
      simp [h64, Nat.testBit_zero]
    · have e5 : x.testBit i = (2 * m + 1).testBit (i - k) := by
        rw [hm, Nat.mul_comm, Nat.testBit_mul_two_pow]
        simp [show k ≤ i by omega]
      rw [e5]
      obtain ⟨t, ht⟩ : ∃ t, i - k = t + 1 := ⟨i - k - 1, by omega⟩
      rw [ht, Nat.testBit_succ, Nat.testBit_succ, show (2 * m + 1) / 2 = m by omega, show 2 * m / 2 = m by omega]
      simp [Ne.symm he]
      intro hz _
      exact hz
end LEA
