/-! agree of the class -/
def jlU (x : Int64) (n : Nat) : Int64 := (x.toUInt64 >>> ((nI n).toInt64.toUInt64 &&& Int64.toUInt64 63)).toInt64
def jl1 (x : Int64) : Int64 := x - (jlU x 1 &&& lN 6148914691236517205)
def jl2 (x : Int64) : Int64 := (x &&& lN 3689348814741910323) + (jlU x 2 &&& lN 3689348814741910323)
def jl3 (x : Int64) : Int64 := x + jlU x 4 &&& lN 1085102592571150095
def jl4 (x : Int64) : Int64 := x + jlU x 8
def jl5 (x : Int64) : Int64 := x + jlU x 16
def jl6 (x : Int64) : Int64 := x + jlU x 32
theorem jl_ok : ∀ k, k < 60 → (jl6 (jl5 (jl4 (jl3 (jl2 (jl1 (lN (2 ^ k - 1)))))))).toInt32 &&& nI 127 = nI k := by decide +kernel
/-- agreement of those entered in a ring -/
def AGM (σ : ST) (Ls : List Nat) (j : Nat → Nat) (a r : Nat) : Prop := AGL σ j (fun l => ∃ q, mbr σ Ls j a r q = true ∧ l = Ls.getD q 0)
section CAG
variable {X : AX} {d : Nat} {Q : Option Value → AH → Prop} {g0 : Nat → Nat → Int32} {hj : Nat → Nat → Int64} {σ : ST} {Ls : List Nat} {j : Nat → Nat} {a P R : Nat} {h : AH}
theorem c_JL_bitCount {k : Nat} (hk : k < 60) : cwp X d m_JL_bitCount [.long (lN (2 ^ k - 1))] h Q = Q (some (.int (nI k))) h := by
  generalize hx : lN (2 ^ k - 1) = x
  simp only [e_JL_bitCount, ↓s_JL_bitCount_0, ↓s_JL_bitCount_1, ↓s_JL_bitCount_2, ↓s_JL_bitCount_3, ↓s_JL_bitCount_4, ↓s_JL_bitCount_7, ↓s_JL_bitCount_8, ↓s_JL_bitCount_9, kL_i, kL_d, kL_l]
  rw [show x - ((x.toUInt64 >>> ((nI 1).toInt64.toUInt64 &&& Int64.toUInt64 63)).toInt64 &&& lN 6148914691236517205) = jl1 x from rfl]
  generalize hx1 : jl1 x = x1
  simp only [↓s_JL_bitCount_10, ↓s_JL_bitCount_11, ↓s_JL_bitCount_14, ↓s_JL_bitCount_15, ↓s_JL_bitCount_16, ↓s_JL_bitCount_17, ↓s_JL_bitCount_18, ↓s_JL_bitCount_21, ↓s_JL_bitCount_22, ↓s_JL_bitCount_23, kL_i, kL_d, kL_l]
  rw [show (x1 &&& lN 3689348814741910323) + ((x1.toUInt64 >>> ((nI 2).toInt64.toUInt64 &&& Int64.toUInt64 63)).toInt64 &&& lN 3689348814741910323) = jl2 x1 from rfl]
  generalize hx2 : jl2 x1 = x2
  simp only [↓s_JL_bitCount_24, ↓s_JL_bitCount_25, ↓s_JL_bitCount_26, ↓s_JL_bitCount_27, ↓s_JL_bitCount_28, ↓s_JL_bitCount_29, ↓s_JL_bitCount_32, ↓s_JL_bitCount_33, kL_i, kL_d, kL_l]
  rw [show (x2 + (x2.toUInt64 >>> ((nI 4).toInt64.toUInt64 &&& Int64.toUInt64 63)).toInt64 &&& lN 1085102592571150095) = jl3 x2 from rfl]
  generalize hx3 : jl3 x2 = x3
  simp only [↓s_JL_bitCount_34, ↓s_JL_bitCount_35, ↓s_JL_bitCount_36, ↓s_JL_bitCount_38, ↓s_JL_bitCount_39, ↓s_JL_bitCount_40, kL_i, kL_d, kL_l]
  rw [show (x3 + (x3.toUInt64 >>> ((nI 8).toInt64.toUInt64 &&& Int64.toUInt64 63)).toInt64) = jl4 x3 from rfl]
  generalize hx4 : jl4 x3 = x4
  simp only [↓s_JL_bitCount_41, ↓s_JL_bitCount_42, ↓s_JL_bitCount_43, ↓s_JL_bitCount_45, ↓s_JL_bitCount_46, ↓s_JL_bitCount_47, kL_i, kL_d, kL_l]
  rw [show (x4 + (x4.toUInt64 >>> ((nI 16).toInt64.toUInt64 &&& Int64.toUInt64 63)).toInt64) = jl5 x4 from rfl]
  generalize hx5 : jl5 x4 = x5
  simp only [↓s_JL_bitCount_48, ↓s_JL_bitCount_49, ↓s_JL_bitCount_50, ↓s_JL_bitCount_52, ↓s_JL_bitCount_53, ↓s_JL_bitCount_54, kL_i, kL_d, kL_l]
  rw [show (x5 + (x5.toUInt64 >>> ((nI 32).toInt64.toUInt64 &&& Int64.toUInt64 63)).toInt64) = jl6 x5 from rfl]
  simp only [↓s_JL_bitCount_55, ↓s_JL_bitCount_56, ↓s_JL_bitCount_57, ↓s_JL_bitCount_59, ↓s_JL_bitCount_60]
  have := jl_ok k hk
  rw [hx, hx1, hx2, hx3, hx4, hx5] at this
  rw [this]
abbrev MM (σ : ST) (Ls : List Nat) (j : Nat → Nat) (a R : Nat) : Nat → Prop := fun q => mbr σ Ls j a R q = true
abbrev GX (σ : ST) (Ls : List Nat) (j : Nat → Nat) (a R : Nat) : Prop := AGx (MM σ Ls j a R) (fun b p => rel σ Ls j p b = true) (fun q => oD σ (Ls.getD q 0) (j (Ls.getD q 0)))
theorem mbr_a {q : Nat} (h : mbr σ Ls j a R q = true) : a.testBit q = true ∧ oR σ (Ls.getD q 0) (j (Ls.getD q 0)) = R := by
  unfold mbr at h
  rw [Bool.and_eq_true, decide_eq_true_eq] at h
  exact h
theorem AGM_x (c0 : CP σ Ls g0 hj) (gi : GI σ Ls a j g0) : AGM σ Ls j a R ↔ GX σ Ls j a R := by
  unfold AGM
  rw [AGL_x (M := MM σ Ls j a R) (f := fun q => Ls.getD q 0) (fun x y hx hy e => gD_inj c0.2.2.1 (a_lt gi.1 (mbr_a hx).1) (a_lt gi.1 (mbr_a hy).1) e)]
  · refine AGx_cg (fun x y hx hy => ?_) (fun _ _ => rfl)
    unfold rel
    rw [decide_eq_true_eq, (mbr_a hx).2, (mbr_a hy).2]
    exact ⟨fun z => ⟨z.1, rfl, z.2⟩, fun z => ⟨z.1, z.2.2⟩⟩
  · intro l
    constructor
    · rintro ⟨q, h1, h2⟩; exact ⟨q, h1, h2.symm⟩
    · rintro ⟨q, h1, h2⟩; exact ⟨q, h1, h2.symm⟩
/-- the next one without one before it -/
theorem l_agreeE {lf : Nat} {v3 v5 v6 v7 : Value} {g : Nat → Nat → Int32} (hn : Ls.length ≤ 8) (e0 : g 24 2 = nI Ls.length) (hlf : lf < 65536) (hla : ∀ q, lf.testBit q = true → a.testBit q = true)
    (hb : ∀ q, q < 8 → g 35 q = nI (bts (fun p => a.testBit q && a.testBit p && rel σ Ls j p q) 8))
    (K1 : ∀ b, b < Ls.length → lf.testBit b = true → (∀ p, p < 8 → a.testBit p = true → rel σ Ls j p b = true → ¬ lf.testBit p = true) → wp X (d + 1) m_Groups_agree 124 [.ref 32, .int (nI P), .int (nI lf), v3, .int (nI b), v5, v6, v7] [] (HP g hj) Q)
    (K0 : (∀ b, b < Ls.length → lf.testBit b = true → ∃ p, p < 8 ∧ a.testBit p = true ∧ rel σ Ls j p b = true ∧ lf.testBit p = true) → Q (some (.int (nI 0))) (HP g hj)) :
    ∀ (m x : Nat), x + m = Ls.length → (∀ b, b < x → lf.testBit b = true → ∃ p, p < 8 ∧ a.testBit p = true ∧ rel σ Ls j p b = true ∧ lf.testBit p = true) →
    wp X (d + 1) m_Groups_agree 71 [.ref 32, .int (nI P), .int (nI lf), v3, .int (nI x), v5, v6, v7] [] (HP g hj) Q
  | 0, x, hx, e => by
    have : x = Ls.length := by omega
    subst this
    rw [s_Groups_agree_71]
    simp (disch := omega) only [↓s_Groups_agree_73, ↓s_Groups_agree_74, ↓s_Groups_agree_77, ↓s_Groups_agree_80, ↓s_Groups_agree_110, ↓s_Groups_agree_112, ↓s_Groups_agree_113, ↓s_Groups_agree_116, ↓s_Groups_agree_119, ↓s_Groups_agree_122, ↓s_Groups_agree_123_0, ↓s_Groups_agree_123_1, ↓s_Groups_agree_123_b, nI_leI, nI_ltI, nI_eq, N_z, nI_add, pk_sub, pk_mul, kL_i, kL_r, kL_d, kL_l, kL_k, kL_f, Option.toList_some, Option.toList_none, List.cons_append, List.nil_append, bI_z, N_and, N_or, N_shl, N_shr, Nat.one_mul, Nat.reduceAdd, lg_cmp_eq, L_and, L_or, bI_1, bI_0, if_true, if_false, reduceIte, N_m1x, ite_not, e0, Nat.le_refl, Nat.lt_irrefl]
    exact K0 e
  | m + 1, x, hx, e => by
    have z1 := hb x (by omega)
    have lb := bts_16 (fun p => a.testBit x && a.testBit p && rel σ Ls j p x) (show 8 ≤ 16 by omega)
    have lb2 : bts (fun p => a.testBit x && a.testBit p && rel σ Ls j p x) 8 &&& lf ≤ lf := Nat.and_le_right
    rw [s_Groups_agree_71]
    simp (disch := omega) only [↓s_Groups_agree_73, ↓s_Groups_agree_74, ↓s_Groups_agree_77, ↓s_Groups_agree_80, ↓s_Groups_agree_83, ↓s_Groups_agree_84, ↓s_Groups_agree_86, ↓s_Groups_agree_87, ↓s_Groups_agree_88, ↓s_Groups_agree_89, ↓s_Groups_agree_92, ↓s_Groups_agree_93, ↓s_Groups_agree_96, ↓s_Groups_agree_98, ↓s_Groups_agree_99, ↓s_Groups_agree_100, ↓s_Groups_agree_101, nI_leI, nI_ltI, nI_eq, N_z, nI_add, pk_sub, pk_mul, kL_i, kL_r, kL_d, kL_l, kL_k, kL_f, Option.toList_some, Option.toList_none, List.cons_append, List.nil_append, bI_z, N_and, N_or, N_shl, N_shr, Nat.one_mul, Nat.reduceAdd, lg_cmp_eq, L_and, L_or, bI_1, bI_0, if_true, if_false, reduceIte, N_m1x, ite_not, e0, Nat.and_one_is_mod, tb_z, z1]
    rw [if_neg (by omega)]
    have step : (lf.testBit x = true → ∃ p, p < 8 ∧ a.testBit p = true ∧ rel σ Ls j p x = true ∧ lf.testBit p = true) → ∀ v3, wp X (d + 1) m_Groups_agree 104 [.ref 32, .int (nI P), .int (nI lf), v3, .int (nI x), v5, v6, v7] [] (HP g hj) Q → True := fun _ _ _ => trivial
    by_cases h1 : lf.testBit x = true
    · rw [if_pos h1]
      by_cases h2 : bts (fun p => a.testBit x && a.testBit p && rel σ Ls j p x) 8 &&& lf = 0
      · rw [if_pos h2]
        simp (disch := omega) only [↓s_Groups_agree_110, ↓s_Groups_agree_112, ↓s_Groups_agree_113, ↓s_Groups_agree_116, ↓s_Groups_agree_119, nI_leI, nI_ltI, nI_eq, N_z, nI_add, pk_sub, pk_mul, kL_i, kL_r, kL_d, kL_l, kL_k, kL_f, Option.toList_some, Option.toList_none, List.cons_append, List.nil_append, bI_z, N_and, N_or, N_shl, N_shr, Nat.one_mul, Nat.reduceAdd, lg_cmp_eq, L_and, L_or, bI_1, bI_0, if_true, if_false, reduceIte, N_m1x, ite_not, e0]
        rw [if_pos (by omega)]
        refine K1 x (by omega) h1 (fun p hp ha hr hl => ?_)
        have := and0.mp h2 p (by rw [bts_tb]; simp [hp, ha, hr, hla x h1])
        rw [this] at hl
        exact absurd hl (by decide)
      · rw [if_neg h2]
        simp (disch := omega) only [↓s_Groups_agree_104, ↓s_Groups_agree_107, nI_add, Nat.reduceAdd]
        have hv3 : killL v3 = killL v3 := rfl
        sorry
    · rw [if_neg h1]
      sorry
end CAG
