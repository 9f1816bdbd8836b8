/-! agree of the class -/
def jlU (x : Int64) (n : Nat) : Int64 := (x.toUInt64 >>> ((nI n).toInt64.toUInt64 &&& Int64.toUInt64 63)).toInt64
def jl1 (x : Int64) : Int64 := x - (jlU x 1 &&& lN 6148914691236517205)
def jl2 (x : Int64) : Int64 := (x &&& lN 3689348814741910323) + (jlU x 2 &&& lN 3689348814741910323)
def jl3 (x : Int64) : Int64 := x + jlU x 4 &&& lN 1085102592571150095
def jl4 (x : Int64) : Int64 := x + jlU x 8
def jl5 (x : Int64) : Int64 := x + jlU x 16
def jl6 (x : Int64) : Int64 := x + jlU x 32
theorem jl_ok : ∀ k, k < 60 → (jl6 (jl5 (jl4 (jl3 (jl2 (jl1 (lN (2 ^ k - 1)))))))).toInt32 &&& nI 127 = nI k := by decide +kernel
/-- agreement of those entered in a ring -/
def AGM (σ : ST) (Ls : List Nat) (j : Nat → Nat) (a r : Nat) : Prop := AGL σ j (fun l => ∃ q, mbr σ Ls j a r q = true ∧ l = Ls.getD q 0)
section CAG
variable {X : AX} {d : Nat} {Q : Option Value → AH → Prop} {g0 : Nat → Nat → Int32} {hj : Nat → Nat → Int64} {σ : ST} {Ls : List Nat} {j : Nat → Nat} {a P R : Nat} {h : AH}
theorem c_JL_bitCount {k : Nat} (hk : k < 60) : cwp X d m_JL_bitCount [.long (lN (2 ^ k - 1))] h Q = Q (some (.int (nI k))) h := by
  generalize hx : lN (2 ^ k - 1) = x
  simp only [e_JL_bitCount, ↓s_JL_bitCount_0, ↓s_JL_bitCount_1, ↓s_JL_bitCount_2, ↓s_JL_bitCount_3, ↓s_JL_bitCount_4, ↓s_JL_bitCount_7, ↓s_JL_bitCount_8, ↓s_JL_bitCount_9, kL_i, kL_d, kL_l]
  rw [show x - ((x.toUInt64 >>> ((nI 1).toInt64.toUInt64 &&& Int64.toUInt64 63)).toInt64 &&& lN 6148914691236517205) = jl1 x from rfl]
  generalize hx1 : jl1 x = x1
  simp only [↓s_JL_bitCount_10, ↓s_JL_bitCount_11, ↓s_JL_bitCount_14, ↓s_JL_bitCount_15, ↓s_JL_bitCount_16, ↓s_JL_bitCount_17, ↓s_JL_bitCount_18, ↓s_JL_bitCount_21, ↓s_JL_bitCount_22, ↓s_JL_bitCount_23, kL_i, kL_d, kL_l]
  rw [show (x1 &&& lN 3689348814741910323) + ((x1.toUInt64 >>> ((nI 2).toInt64.toUInt64 &&& Int64.toUInt64 63)).toInt64 &&& lN 3689348814741910323) = jl2 x1 from rfl]
  generalize hx2 : jl2 x1 = x2
  simp only [↓s_JL_bitCount_24, ↓s_JL_bitCount_25, ↓s_JL_bitCount_26, ↓s_JL_bitCount_27, ↓s_JL_bitCount_28, ↓s_JL_bitCount_29, ↓s_JL_bitCount_32, ↓s_JL_bitCount_33, kL_i, kL_d, kL_l]
  rw [show (x2 + (x2.toUInt64 >>> ((nI 4).toInt64.toUInt64 &&& Int64.toUInt64 63)).toInt64 &&& lN 1085102592571150095) = jl3 x2 from rfl]
  generalize hx3 : jl3 x2 = x3
  simp only [↓s_JL_bitCount_34, ↓s_JL_bitCount_35, ↓s_JL_bitCount_36, ↓s_JL_bitCount_38, ↓s_JL_bitCount_39, ↓s_JL_bitCount_40, kL_i, kL_d, kL_l]
  rw [show (x3 + (x3.toUInt64 >>> ((nI 8).toInt64.toUInt64 &&& Int64.toUInt64 63)).toInt64) = jl4 x3 from rfl]
  generalize hx4 : jl4 x3 = x4
  simp only [↓s_JL_bitCount_41, ↓s_JL_bitCount_42, ↓s_JL_bitCount_43, ↓s_JL_bitCount_45, ↓s_JL_bitCount_46, ↓s_JL_bitCount_47, kL_i, kL_d, kL_l]
  rw [show (x4 + (x4.toUInt64 >>> ((nI 16).toInt64.toUInt64 &&& Int64.toUInt64 63)).toInt64) = jl5 x4 from rfl]
  generalize hx5 : jl5 x4 = x5
  simp only [↓s_JL_bitCount_48, ↓s_JL_bitCount_49, ↓s_JL_bitCount_50, ↓s_JL_bitCount_52, ↓s_JL_bitCount_53, ↓s_JL_bitCount_54, kL_i, kL_d, kL_l]
  rw [show (x5 + (x5.toUInt64 >>> ((nI 32).toInt64.toUInt64 &&& Int64.toUInt64 63)).toInt64) = jl6 x5 from rfl]
  simp only [↓s_JL_bitCount_55, ↓s_JL_bitCount_56, ↓s_JL_bitCount_57, ↓s_JL_bitCount_59, ↓s_JL_bitCount_60]
  have := jl_ok k hk
  rw [hx, hx1, hx2, hx3, hx4, hx5] at this
  rw [this]
abbrev MM (σ : ST) (Ls : List Nat) (j : Nat → Nat) (a R : Nat) : Nat → Prop := fun q => mbr σ Ls j a R q = true
abbrev GX (σ : ST) (Ls : List Nat) (j : Nat → Nat) (a R : Nat) : Prop := AGx (MM σ Ls j a R) (fun b p => rel σ Ls j p b = true) (fun q => oD σ (Ls.getD q 0) (j (Ls.getD q 0)))
theorem mbr_a {q : Nat} (h : mbr σ Ls j a R q = true) : a.testBit q = true ∧ oR σ (Ls.getD q 0) (j (Ls.getD q 0)) = R := by
  unfold mbr at h
  rw [Bool.and_eq_true, decide_eq_true_eq] at h
  exact h
theorem AGM_x (c0 : CP σ Ls g0 hj) (gi : GI σ Ls a j g0) : AGM σ Ls j a R ↔ GX σ Ls j a R := by
  unfold AGM
  rw [AGL_x (M := MM σ Ls j a R) (f := fun q => Ls.getD q 0) (fun x y hx hy e => gD_inj c0.2.2.1 (a_lt gi.1 (mbr_a hx).1) (a_lt gi.1 (mbr_a hy).1) e)]
  · refine AGx_cg (fun x y hx hy => ?_) (fun _ _ => rfl)
    unfold rel
    rw [decide_eq_true_eq, (mbr_a hx).2, (mbr_a hy).2]
    exact ⟨fun z => ⟨z.1, rfl, z.2⟩, fun z => ⟨z.1, z.2.2⟩⟩
  · intro l
    constructor
    · rintro ⟨q, h1, h2⟩; exact ⟨q, h1, h2.symm⟩
    · rintro ⟨q, h1, h2⟩; exact ⟨q, h1, h2.symm⟩
/-- the next one without one before it -/
theorem l_agreeE {lf : Nat} {v3 : Int32} {v5 v6 v7 : Value} {g : Nat → Nat → Int32} (hn : Ls.length ≤ 8) (e0 : g 24 2 = nI Ls.length) (hlf : lf < 65536) (hla : ∀ q, lf.testBit q = true → a.testBit q = true)
    (hb : ∀ q, q < 8 → g 35 q = nI (bts (fun p => a.testBit q && a.testBit p && rel σ Ls j p q) 8))
    (K1 : ∀ b, b < Ls.length → lf.testBit b = true → (∀ p, p < 8 → a.testBit p = true → rel σ Ls j p b = true → ¬ lf.testBit p = true) → wp X (d + 1) m_Groups_agree 124 [.ref 32, .int (nI P), .int (nI lf), .int v3, .int (nI b), v5, v6, v7] [] (HP g hj) Q)
    (K0 : (∀ b, b < Ls.length → lf.testBit b = true → ∃ p, p < 8 ∧ a.testBit p = true ∧ rel σ Ls j p b = true ∧ lf.testBit p = true) → Q (some (.int (nI 0))) (HP g hj)) :
    ∀ (m x : Nat), x + m = Ls.length → (∀ b, b < x → lf.testBit b = true → ∃ p, p < 8 ∧ a.testBit p = true ∧ rel σ Ls j p b = true ∧ lf.testBit p = true) →
    wp X (d + 1) m_Groups_agree 71 [.ref 32, .int (nI P), .int (nI lf), .int v3, .int (nI x), v5, v6, v7] [] (HP g hj) Q
  | 0, x, hx, e => by
    have : x = Ls.length := by omega
    subst this
    rw [s_Groups_agree_71]
    simp (disch := omega) only [↓s_Groups_agree_73, ↓s_Groups_agree_74, ↓s_Groups_agree_77, ↓s_Groups_agree_80, ↓s_Groups_agree_110, ↓s_Groups_agree_112, ↓s_Groups_agree_113, ↓s_Groups_agree_116, ↓s_Groups_agree_119, ↓s_Groups_agree_122, ↓s_Groups_agree_123_0, ↓s_Groups_agree_123_1, ↓s_Groups_agree_123_b, nI_leI, nI_ltI, nI_eq, N_z, nI_add, pk_sub, pk_mul, kL_i, kL_r, kL_d, kL_l, kL_k, kL_f, Option.toList_some, Option.toList_none, List.cons_append, List.nil_append, bI_z, N_and, N_or, N_shl, N_shr, Nat.one_mul, Nat.reduceAdd, lg_cmp_eq, L_and, L_or, bI_1, bI_0, if_true, if_false, reduceIte, N_m1x, ite_not, e0, Nat.le_refl, Nat.lt_irrefl]
    exact K0 e
  | m + 1, x, hx, e => by
    have z1 := hb x (by omega)
    have lb := bts_16 (fun p => a.testBit x && a.testBit p && rel σ Ls j p x) (show 8 ≤ 16 by omega)
    have lb2 : bts (fun p => a.testBit x && a.testBit p && rel σ Ls j p x) 8 &&& lf ≤ lf := Nat.and_le_right
    have step : (lf.testBit x = true → ∃ p, p < 8 ∧ a.testBit p = true ∧ rel σ Ls j p x = true ∧ lf.testBit p = true) → wp X (d + 1) m_Groups_agree 104 [.ref 32, .int (nI P), .int (nI lf), .int v3, .int (nI x), v5, v6, v7] [] (HP g hj) Q := by
      intro hh
      simp (disch := omega) only [↓s_Groups_agree_104, ↓s_Groups_agree_107, nI_leI, nI_ltI, nI_eq, N_z, nI_add, pk_sub, pk_mul, kL_i, kL_r, kL_d, kL_l, kL_k, kL_f, Option.toList_some, Option.toList_none, List.cons_append, List.nil_append, bI_z, N_and, N_or, N_shl, N_shr, Nat.one_mul, Nat.reduceAdd, lg_cmp_eq, L_and, L_or, bI_1, bI_0, if_true, if_false, reduceIte, N_m1x, ite_not]
      refine l_agreeE hn e0 hlf hla hb K1 K0 m (x + 1) (by omega) (fun b hb2 hl => ?_)
      by_cases eb : b = x
      · subst eb; exact hh hl
      · exact e b (by omega) hl
    rw [s_Groups_agree_71]
    simp (disch := omega) only [↓s_Groups_agree_73, ↓s_Groups_agree_74, ↓s_Groups_agree_77, ↓s_Groups_agree_80, ↓s_Groups_agree_83, ↓s_Groups_agree_84, ↓s_Groups_agree_86, ↓s_Groups_agree_87, ↓s_Groups_agree_88, ↓s_Groups_agree_89, ↓s_Groups_agree_92, ↓s_Groups_agree_93, ↓s_Groups_agree_96, ↓s_Groups_agree_98, ↓s_Groups_agree_99, ↓s_Groups_agree_100, ↓s_Groups_agree_101, nI_leI, nI_ltI, nI_eq, N_z, nI_add, pk_sub, pk_mul, kL_i, kL_r, kL_d, kL_l, kL_k, kL_f, Option.toList_some, Option.toList_none, List.cons_append, List.nil_append, bI_z, N_and, N_or, N_shl, N_shr, Nat.one_mul, Nat.reduceAdd, lg_cmp_eq, L_and, L_or, bI_1, bI_0, if_true, if_false, reduceIte, N_m1x, ite_not, e0, Nat.and_one_is_mod, tb_z, z1]
    rw [if_neg (by omega)]
    by_cases h1 : lf.testBit x = true
    · rw [if_pos h1]
      by_cases h2 : bts (fun p => a.testBit x && a.testBit p && rel σ Ls j p x) 8 &&& lf = 0
      · rw [if_pos h2]
        simp (disch := omega) only [↓s_Groups_agree_110, ↓s_Groups_agree_112, ↓s_Groups_agree_113, ↓s_Groups_agree_116, ↓s_Groups_agree_119, nI_leI, nI_ltI, nI_eq, N_z, nI_add, pk_sub, pk_mul, kL_i, kL_r, kL_d, kL_l, kL_k, kL_f, Option.toList_some, Option.toList_none, List.cons_append, List.nil_append, bI_z, N_and, N_or, N_shl, N_shr, Nat.one_mul, Nat.reduceAdd, lg_cmp_eq, L_and, L_or, bI_1, bI_0, if_true, if_false, reduceIte, N_m1x, ite_not, e0]
        rw [if_pos (by omega)]
        refine K1 x (by omega) h1 (fun p hp ha hr hl => ?_)
        have := and0.mp h2 p (by rw [bts_tb]; simp [hp, ha, hr, hla x h1])
        rw [this] at hl
        exact absurd hl (by decide)
      · rw [if_neg h2]
        refine step (fun _ => ?_)
        by_cases h3 : ∃ p, p < 8 ∧ a.testBit p = true ∧ rel σ Ls j p x = true ∧ lf.testBit p = true
        · exact h3
        · exfalso
          apply h2
          rw [and0]
          intro p hp
          rw [bts_tb] at hp
          simp only [Bool.and_eq_true, decide_eq_true_eq] at hp
          by_cases h4 : lf.testBit p = true
          · exact absurd ⟨p, hp.1, hp.2.1.2, hp.2.2, h4⟩ h3
          · simpa using h4
    · rw [if_neg h1]
      exact step (fun z => absurd z h1)
theorem l_agreeF {b lf : Nat} {v3 : Int32} {v7 : Value} {Bb : Nat → Bool} {day : Nat → Nat} {g : Nat → Nat → Int32} {Pp : Prop} (hn : Ls.length ≤ 8) (hbn : b < 8) (e0 : g 24 2 = nI Ls.length) (hB : g 35 b = nI (bts Bb 8)) (hd : ∀ x, x < Ls.length → Bb x = true → g 37 x = nI (day x) ∧ day x < 60)
    (Kc : wp X (d + 1) m_Groups_agree 184 [.ref 32, .int (nI P), .int (nI lf), .int v3, .int (nI b), .int (nI (mxd Bb day 0 Ls.length)), .int (nI Ls.length), v7] [] (HP g hj) Q = Pp) :
    ∀ (m x : Nat), x + m = Ls.length → wp X (d + 1) m_Groups_agree 130 [.ref 32, .int (nI P), .int (nI lf), .int v3, .int (nI b), .int (nI (mxd Bb day 0 x)), .int (nI x), v7] [] (HP g hj) Q = Pp
  | 0, x, hx => by
    have : x = Ls.length := by omega
    subst this
    rw [s_Groups_agree_130]
    simp (disch := omega) only [↓s_Groups_agree_132, ↓s_Groups_agree_133, ↓s_Groups_agree_136, ↓s_Groups_agree_139, nI_leI, nI_ltI, nI_eq, N_z, nI_add, pk_sub, pk_mul, kL_i, kL_r, kL_d, kL_l, kL_k, kL_f, Option.toList_some, Option.toList_none, List.cons_append, List.nil_append, bI_z, N_and, N_or, N_shl, N_shr, Nat.one_mul, Nat.reduceAdd, lg_cmp_eq, L_and, L_or, bI_1, bI_0, if_true, if_false, reduceIte, N_m1x, ite_not, e0, Nat.le_refl]
    exact Kc
  | m + 1, x, hx => by
    have lb := bts_16 Bb (show 8 ≤ 16 by omega)
    have ih := l_agreeF (v7 := v7) hn hbn e0 hB hd Kc m (x + 1) (by omega)
    have e : mxd Bb day 0 (x + 1) = if (Bb x && decide (mxd Bb day 0 x < day x)) = true then day x else mxd Bb day 0 x := rfl
    have lm := mxd_lt (Bb := Bb) (day := day) (f := 0) (by omega) x (fun y hy hby => (hd y (by omega) hby).2)
    have tb : (bts Bb 8).testBit x = Bb x := by rw [bts_tb]; simp [show x < 8 by omega]
    rw [s_Groups_agree_130]
    simp (disch := omega) only [↓s_Groups_agree_132, ↓s_Groups_agree_133, ↓s_Groups_agree_136, ↓s_Groups_agree_139, ↓s_Groups_agree_142, ↓s_Groups_agree_143, ↓s_Groups_agree_146, ↓s_Groups_agree_148, ↓s_Groups_agree_149, ↓s_Groups_agree_151, ↓s_Groups_agree_152, ↓s_Groups_agree_153, ↓s_Groups_agree_154, nI_leI, nI_ltI, nI_eq, N_z, nI_add, pk_sub, pk_mul, kL_i, kL_r, kL_d, kL_l, kL_k, kL_f, Option.toList_some, Option.toList_none, List.cons_append, List.nil_append, bI_z, N_and, N_or, N_shl, N_shr, Nat.one_mul, Nat.reduceAdd, lg_cmp_eq, L_and, L_or, bI_1, bI_0, if_true, if_false, reduceIte, N_m1x, ite_not, e0, hB, Nat.and_one_is_mod, tb_z, tb]
    rw [if_neg (by omega)]
    by_cases h1 : Bb x = true
    · obtain ⟨d1, d2⟩ := hd x (by omega) h1
      rw [if_pos h1]
      simp (disch := omega) only [↓s_Groups_agree_157, ↓s_Groups_agree_158, ↓s_Groups_agree_161, ↓s_Groups_agree_163, ↓s_Groups_agree_164, ↓s_Groups_agree_166, nI_leI, nI_ltI, nI_eq, N_z, nI_add, pk_sub, pk_mul, kL_i, kL_r, kL_d, kL_l, kL_k, kL_f, Option.toList_some, Option.toList_none, List.cons_append, List.nil_append, bI_z, N_and, N_or, N_shl, N_shr, Nat.one_mul, Nat.reduceAdd, lg_cmp_eq, L_and, L_or, bI_1, bI_0, if_true, if_false, reduceIte, N_m1x, ite_not, d1]
      by_cases h2 : mxd Bb day 0 x < day x
      · rw [if_pos (by simp [h1, h2])] at e
        rw [if_neg (by omega)]
        simp (disch := omega) only [↓s_Groups_agree_169, ↓s_Groups_agree_170, ↓s_Groups_agree_173, ↓s_Groups_agree_175, ↓s_Groups_agree_176, ↓s_Groups_agree_178, ↓s_Groups_agree_181, nI_leI, nI_ltI, nI_eq, N_z, nI_add, pk_sub, pk_mul, kL_i, kL_r, kL_d, kL_l, kL_k, kL_f, Option.toList_some, Option.toList_none, List.cons_append, List.nil_append, bI_z, N_and, N_or, N_shl, N_shr, Nat.one_mul, Nat.reduceAdd, lg_cmp_eq, L_and, L_or, bI_1, bI_0, if_true, if_false, reduceIte, N_m1x, ite_not, d1]
        rw [e] at ih
        exact ih
      · rw [if_neg (by simp [h2])] at e
        rw [if_pos (by omega)]
        simp (disch := omega) only [↓s_Groups_agree_178, ↓s_Groups_agree_181, nI_leI, nI_ltI, nI_eq, N_z, nI_add, pk_sub, pk_mul, kL_i, kL_r, kL_d, kL_l, kL_k, kL_f, Option.toList_some, Option.toList_none, List.cons_append, List.nil_append, bI_z, N_and, N_or, N_shl, N_shr, Nat.one_mul, Nat.reduceAdd, lg_cmp_eq, L_and, L_or, bI_1, bI_0, if_true, if_false, reduceIte, N_m1x, ite_not]
        rw [e] at ih
        exact ih
    · rw [if_neg (by simp [h1])] at e
      rw [if_neg h1]
      simp (disch := omega) only [↓s_Groups_agree_178, ↓s_Groups_agree_181, nI_leI, nI_ltI, nI_eq, N_z, nI_add, pk_sub, pk_mul, kL_i, kL_r, kL_d, kL_l, kL_k, kL_f, Option.toList_some, Option.toList_none, List.cons_append, List.nil_append, bI_z, N_and, N_or, N_shl, N_shr, Nat.one_mul, Nat.reduceAdd, lg_cmp_eq, L_and, L_or, bI_1, bI_0, if_true, if_false, reduceIte, N_m1x, ite_not]
      rw [e] at ih
      exact ih
def AI (σ : ST) (Ls : List Nat) (j : Nat → Nat) (a R : Nat) (g0 g : Nat → Nat → Int32) (s lf : Nat) (day : Nat → Nat) : Prop :=
  (∀ k, k ≠ 37 → g k = g0 k) ∧ (∀ q, lf.testBit q = true → mbr σ Ls j a R q = true) ∧ lf < 65536 ∧ pcn lf 16 + s = pcn (bts (mbr σ Ls j a R) 8) 16 ∧ GIv (MM σ Ls j a R) (fun b p => rel σ Ls j p b = true) (fun q => oD σ (Ls.getD q 0) (j (Ls.getD q 0))) s (fun q => mbr σ Ls j a R q = true ∧ ¬ lf.testBit q = true) day ∧ ∀ q, mbr σ Ls j a R q = true → ¬ lf.testBit q = true → g 37 q = nI (day q) ∧ day q < 60
theorem open_tb (D f i : Nat) : (D / 2 ^ f * 2 ^ f).testBit i = (decide (f ≤ i) && D.testBit i) := by
  rw [Nat.testBit_mul_two_pow]
  by_cases h : f ≤ i
  · simp only [h]
    rw [Nat.testBit_div_two_pow]
    rw [show i - f + f = i by omega]
  · simp [h]
theorem pcn_clr {x k : Nat} (hk : x.testBit k = true) (hx : x < 65536) (hk16 : k < 16) : pcn (x &&& (2 ^ k ^^^ 4294967295)) 16 + 1 = pcn x 16 := by
  have e : ∀ i, i < 16 → (x &&& (2 ^ k ^^^ 4294967295)).testBit i = (x.testBit i && !decide (k = i)) := by
    intro i hi
    rw [Nat.testBit_and, Nat.testBit_xor, tb_ff (by omega), Nat.testBit_two_pow]
    simp
  have hn : ¬ (x &&& (2 ^ k ^^^ 4294967295)).testBit k = true := by rw [e k hk16]; simp
  rw [← pcn_or hn 16 hk16]
  refine pcn_cg 16 (fun i hi => ?_)
  rw [or_tb, e i hi]
  by_cases h : k = i
  · subst h; simp [hk]
  · simp [h]
theorem l_agreeD (c0 : CP σ Ls g0 hj) (gi : GI σ Ls a j g0) (Kc : ∀ g, (∀ k, k ≠ 37 → g k = g0 k) → Q (some (.int (bI (cl (GX σ Ls j a R) = true)))) (HP g hj)) :
    ∀ (m s lf : Nat) (day : Nat → Nat) (g : Nat → Nat → Int32) (v4 v5 v6 v7 : Value), s + m = 9 → AI σ Ls j a R g0 g s lf day →
    wp X (d + 1) m_Groups_agree 58 [.ref 32, .int (nI P), .int (nI lf), .int (nI s), v4, v5, v6, v7] [] (HP g hj) Q
  | 0, s, lf, day, g, v4, v5, v6, v7, hs, ai => by
    obtain ⟨a1, a2, a3, a4, a5, a6⟩ := ai
    have := pcn_bd (k := 8) (bts_lt (mbr σ Ls j a R) 8) 16
    omega
  | m + 1, s, lf, day, g, v4, v5, v6, v7, hs, ai => by
    obtain ⟨a1, a2, a3, a4, a5, a6⟩ := ai
    have hn := c0.2.1
    have w := c0.2.2.2.2
    have bd := pcn_bd (k := 8) (bts_lt (mbr σ Ls j a R) 8) 16
    have e0 : g 24 2 = nI Ls.length := by rw [a1 24 (by omega)]; exact c0.1.1
    have hb : ∀ q, q < 8 → g 35 q = nI (bts (fun p => a.testBit q && a.testBit p && rel σ Ls j p q) 8) := fun q hq => by rw [a1 35 (by omega)]; exact (gi.2.2.2 q hq).1
    have cg := CP_cg c0 (g2 := g) (fun k _ _ => a1 k (by omega))
    have done : lf = 0 → Q (some (.int (nI 1))) (HP g hj) := by
      intro h0
      have := Kc g a1
      rw [bI_t (cl_t.mpr (GIv_end a5 (fun b hb => ⟨hb, by rw [h0]; simp⟩)))] at this
      exact this
    have lf0 : s = 8 → lf = 0 := by
      intro h8
      have hz : pcn lf 16 = 0 := by omega
      refine eq16 a3 (by omega) (fun e he => ?_)
      have := (pcn_sub (a := 0) (b := lf) 16 (fun i hi hb => by simp at hb)).2 (by rw [pcn_0]; omega) e he
      rw [this]
    rw [s_Groups_agree_58]
    simp (disch := omega) only [↓s_Groups_agree_59, ↓s_Groups_agree_61, ↓s_Groups_agree_64, ↓s_Groups_agree_65, ↓s_Groups_agree_249, ↓s_Groups_agree_250_0, ↓s_Groups_agree_250_1, ↓s_Groups_agree_250_b, nI_leI, nI_ltI, nI_eq, N_z, nI_add, pk_sub, pk_mul, kL_i, kL_r, kL_d, kL_l, kL_k, kL_f, Option.toList_some, Option.toList_none, List.cons_append, List.nil_append, bI_z, N_and, N_or, N_shl, N_shr, Nat.one_mul, Nat.reduceAdd, lg_cmp_eq, L_and, L_or, bI_1, bI_0, if_true, if_false, reduceIte, N_m1x, ite_not]
    by_cases h8 : 8 ≤ s
    · rw [if_pos h8]
      exact done (lf0 (by omega))
    rw [if_neg h8]
    by_cases hl0 : lf = 0
    · rw [if_pos hl0]
      exact done hl0
    rw [if_neg hl0]
    simp (disch := omega) only [↓s_Groups_agree_68, ↓s_Groups_agree_69, kL_i]
    refine l_agreeE (σ := σ) (j := j) (a := a) hn e0 a3 (fun q hq => (mbr_a (a2 q hq)).1) hb (fun b hbn hlb hsub => ?_) (fun hno => ?_) Ls.length 0 (by omega) (fun b hb => by omega)
    · have hmb := a2 b hlb
      obtain ⟨hab, hRb⟩ := mbr_a hmb
      have inD : ∀ p, mbr σ Ls j a R p = true → rel σ Ls j p b = true → mbr σ Ls j a R p = true ∧ ¬ lf.testBit p = true := by
        intro p hp hr
        have hp8 := a_lt gi.1 (mbr_a hp).1
        exact ⟨hp, hsub p (by omega) (mbr_a hp).1 hr⟩
      have relM : ∀ p, a.testBit p = true → rel σ Ls j p b = true → mbr σ Ls j a R p = true := by
        intro p hp hr
        unfold rel at hr
        rw [decide_eq_true_eq] at hr
        unfold mbr
        rw [Bool.and_eq_true, decide_eq_true_eq]
        exact ⟨hp, hr.2.1.trans hRb⟩
      have hday : ∀ x, x < Ls.length → (a.testBit b && a.testBit x && rel σ Ls j x b) = true → g 37 x = nI (day x) ∧ day x < 60 := by
        intro x hx hB
        simp only [Bool.and_eq_true] at hB
        have hm := relM x hB.1.2 hB.2
        exact a6 x hm (inD x hm hB.2).2
      obtain ⟨gc1, gc2⟩ := gi.2.2.1 b hab
      rw [← a1 33 (by omega)] at gc1
      obtain ⟨r1, r2, r3, r4, r5, r6, r7, r8⟩ := CP_rd cg hbn gc2
      have oDl : oD σ (Ls.getD b 0) (j (Ls.getD b 0)) < 1152921504606846976 := dd_lt w r8 _
      simp (disch := omega) only [↓s_Groups_agree_124, ↓s_Groups_agree_125, ↓s_Groups_agree_127, ↓s_Groups_agree_128, kL_i]
      refine (l_agreeF (day := day) (v7 := v7) hn (by omega) e0 (hb b (by omega)) hday rfl Ls.length 0 (by omega)).mpr ?_
      generalize hF : mxd (fun p => a.testBit b && a.testBit p && rel σ Ls j p b) day 0 Ls.length = F
      obtain ⟨m1, m2, m3⟩ := mxd_ok (fun p => a.testBit b && a.testBit p && rel σ Ls j p b) day 0 Ls.length
      have ml := mxd_lt (Bb := fun p => a.testBit b && a.testBit p && rel σ Ls j p b) (day := day) (f := 0) (by omega) Ls.length (fun x hx hB => (hday x hx hB).2)
      rw [hF] at m1 m2 m3 ml
      have ol : oD σ (Ls.getD b 0) (j (Ls.getD b 0)) / 2 ^ F * 2 ^ F ≤ oD σ (Ls.getD b 0) (j (Ls.getD b 0)) := Nat.div_mul_le_self _ _
      have dayM : ∀ p, mbr σ Ls j a R p = true → rel σ Ls j p b = true → day p ≤ F := by
        intro p hp hr
        have hp8 := a_lt gi.1 (mbr_a hp).1
        exact m2 p hp8 (by simp [hab, (mbr_a hp).1, hr])
      have maxM : ∀ z, (∀ p, mbr σ Ls j a R p = true → rel σ Ls j p b = true → day p ≤ z) → F ≤ z := by
        intro z hz
        refine m3 z (by omega) (fun x hx hB => ?_)
        simp only [Bool.and_eq_true] at hB
        exact hz x (relM x hB.1.2 hB.2) hB.2
      simp (disch := omega) only [↓s_Groups_agree_184, ↓s_Groups_agree_185, ↓s_Groups_agree_188, ↓s_Groups_agree_191, ↓s_Groups_agree_192, ↓s_Groups_agree_195, ↓s_Groups_agree_197, ↓s_Groups_agree_198, ↓s_Groups_agree_199, ↓s_Groups_agree_201, ↓s_Groups_agree_202, ↓s_Groups_agree_204, ↓s_Groups_agree_205, ↓s_Groups_agree_207, ↓s_Groups_agree_209, ↓s_Groups_agree_210, ↓s_Groups_agree_211, ↓s_Groups_agree_214, ↓s_Groups_agree_215_0, ↓s_Groups_agree_215_1, ↓s_Groups_agree_215_b, nI_leI, nI_ltI, nI_eq, N_z, nI_add, pk_sub, pk_mul, kL_i, kL_r, kL_d, kL_l, kL_k, kL_f, Option.toList_some, Option.toList_none, List.cons_append, List.nil_append, bI_z, N_and, N_or, N_shl, N_shr, Nat.one_mul, Nat.reduceAdd, lg_cmp_eq, L_and, L_or, bI_1, bI_0, if_true, if_false, reduceIte, N_m1x, ite_not, gc1, r6, L_shr, L_shl, L_inj]
      by_cases ho : oD σ (Ls.getD b 0) (j (Ls.getD b 0)) / 2 ^ F * 2 ^ F = 0
      · rw [if_pos ho]
        have hno : ¬ GX σ Ls j a R := by
          refine GIv_no2 (b := b) a5 hmb (fun p hp hr => inD p hp hr) (fun z hz => ?_)
          by_cases q3 : ∃ p, mbr σ Ls j a R p = true ∧ rel σ Ls j p b = true ∧ z < day p
          · exact q3
          · exfalso
            have q4 := maxM z (fun p hp hr => by
              by_cases q5 : day p ≤ z
              · exact q5
              · exact absurd ⟨p, hp, hr, by omega⟩ q3)
            have q6 := open_tb (oD σ (Ls.getD b 0) (j (Ls.getD b 0))) F z
            rw [ho, Nat.zero_testBit, hz] at q6
            simp [q4] at q6
        have := Kc g a1
        rw [bI_f (fun z => hno (cl_t.mp z))] at this
        exact this
      · rw [if_neg ho]
        obtain ⟨y, y1, y2⟩ := low_ex ho
        have y3 := y1
        rw [open_tb, Bool.and_eq_true, decide_eq_true_eq] at y3
        have y60 : y < 60 := by
          by_cases hh : y < 60
          · exact hh
          · have := lt_tb (a := oD σ (Ls.getD b 0) (j (Ls.getD b 0))) (c := 60) (i := y) oDl (by omega)
            rw [this] at y3
            exact absurd y3.2 (by decide)
        have y4 := low_and (by omega) y1 y2
        have yp : 1 ≤ 2 ^ y := Nat.one_le_two_pow
        simp (disch := omega) only [↓s_Groups_agree_216, ↓s_Groups_agree_217, ↓s_Groups_agree_220, ↓s_Groups_agree_222, ↓s_Groups_agree_224, ↓s_Groups_agree_226, ↓s_Groups_agree_227, ↓s_Groups_agree_228, ↓s_Groups_agree_229, ↓s_Groups_agree_230, y4, lN_sub, c_JL_bitCount]
        simp (disch := omega) only [↓s_Groups_agree_233, ↓s_Groups_agree_234, ↓s_Groups_agree_235, ↓s_Groups_agree_236, ↓s_Groups_agree_238, ↓s_Groups_agree_239, ↓s_Groups_agree_240, ↓s_Groups_agree_241, ↓s_Groups_agree_242, ↓s_Groups_agree_243, ↓s_Groups_agree_246, nI_leI, nI_ltI, nI_eq, N_z, nI_add, pk_sub, pk_mul, kL_i, kL_r, kL_d, kL_l, kL_k, kL_f, Option.toList_some, Option.toList_none, List.cons_append, List.nil_append, bI_z, N_and, N_or, N_shl, N_shr, Nat.one_mul, Nat.reduceAdd, lg_cmp_eq, L_and, L_or, bI_1, bI_0, if_true, if_false, reduceIte, N_m1x, ite_not]
        have clr : ∀ q, (lf &&& (2 ^ b ^^^ 4294967295)).testBit q = true ↔ lf.testBit q = true ∧ q ≠ b := by
          intro q
          constructor
          · intro hq
            have hq16 : lf.testBit q = true := by
              rw [Nat.testBit_and, Bool.and_eq_true] at hq
              exact hq.1
            refine ⟨hq16, fun e => ?_⟩
            subst e
            rw [Nat.testBit_and, Nat.testBit_xor, tb_ff (by omega), Nat.testBit_two_pow] at hq
            simp at hq
          · rintro ⟨h1, h2⟩
            have hq8 := a_lt gi.1 (mbr_a (a2 q h1)).1
            rw [Nat.testBit_and, Nat.testBit_xor, tb_ff (by omega), Nat.testBit_two_pow, h1]
            simp [Ne.symm h2]
        have notin : ¬ (mbr σ Ls j a R b = true ∧ ¬ lf.testBit b = true) := fun z => z.2 hlb
        refine l_agreeD c0 gi Kc m (s + 1) (lf &&& (2 ^ b ^^^ 4294967295)) (pu day b y) _ _ _ _ _ (by omega) ⟨fun k hk => ?_, fun q hq => a2 q ((clr q).mp hq).1, Nat.lt_of_le_of_lt Nat.and_le_left a3, ?_, ?_, fun q hq hl => ?_⟩
        · rw [u2_r _ _ _ hk]; exact a1 k hk
        · have := pcn_clr hlb a3 (by omega)
          omega
        · refine GIv_s (b := b) (y := y) a5 hmb notin (fun p hp hr => inD p hp hr) y3.2 (fun p hp hr => Nat.le_trans (dayM p hp hr) y3.1) (fun z hz hz2 => ?_) (fun x => ?_) (pu_s _ _ _) (fun x hx => pu_n _ (fun e => notin (e ▸ hx)))
          · have q4 := maxM z (fun p hp hr => hz2 p hp hr)
            by_cases q5 : y ≤ z
            · exact q5
            · exfalso
              have q6 := y2 z (by omega)
              rw [open_tb, hz] at q6
              simp [q4] at q6
          · constructor
            · rintro ⟨z1, z2⟩
              by_cases e : x = b
              · exact Or.inr e
              · exact Or.inl ⟨z1, fun hz => z2 ((clr x).mpr ⟨hz, e⟩)⟩
            · rintro (⟨z1, z2⟩ | z)
              · exact ⟨z1, fun hz => z2 ((clr x).mp hz).1⟩
              · subst z
                exact ⟨hmb, fun hz => ((clr x).mp hz).2 rfl⟩
        · by_cases e : q = b
          · subst e
            rw [u2_s, pu_s]
            exact ⟨rfl, y60⟩
          · rw [u2_m _ _ _ _ e, pu_n _ e]
            exact a6 q hq (fun hz => hl ((clr q).mpr ⟨hz, e⟩))
    · have hno2 : ¬ GX σ Ls j a R := by
        refine GIv_no1 (D := fun q => mbr σ Ls j a R q = true ∧ ¬ lf.testBit q = true) (fun b hb hnd => ?_) ?_
        · have hlb : lf.testBit b = true := by
            by_cases z : lf.testBit b = true
            · exact z
            · exact absurd ⟨hb, z⟩ hnd
          obtain ⟨p, p1, p2, p3, p4⟩ := hno b (a_lt gi.1 (mbr_a hb).1) hlb
          exact ⟨p, a2 p p4, p3, fun z => z.2 p4⟩
        · obtain ⟨k, k1, _⟩ := low_ex hl0
          exact ⟨k, a2 k k1, fun z => z.2 k1⟩
      have := Kc g a1
      rw [bI_f (fun z => hno2 (cl_t.mp z))] at this
      exact this
end CAG
