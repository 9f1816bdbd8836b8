/-! copyOf, shut, gap, count -/
/-- the nearest ring so far (and one; 0 none), and in how many cells it is unlike -/
def cpf (σ : ST) (x m : Nat) : Nat → Nat × Nat
  | 0 => (0, m + 1)
  | r + 1 => if ¬ stone σ r = stone σ x ∧ nrn σ x r 4 < (cpf σ x m r).2 then (r + 1, nrn σ x r 4) else cpf σ x m r
theorem cpf_le (σ : ST) (x : Nat) {m : Nat} (hm : m ≤ 16) : ∀ r, (cpf σ x m r).1 ≤ r ∧ (cpf σ x m r).2 ≤ 17 ∧ ((cpf σ x m r).1 = 0 → (cpf σ x m r).2 = m + 1)
  | 0 => ⟨Nat.le_refl 0, by show m + 1 ≤ 17; omega, fun _ => rfl⟩
  | r + 1 => by
    obtain ⟨h1, h2, h3⟩ := cpf_le σ x hm r
    have h4 := nrn_le σ x r 4
    unfold cpf
    split
    · exact ⟨by omega, by show nrn σ x r 4 ≤ 17; omega, fun z => by simp at z⟩
    · exact ⟨by omega, h2, h3⟩
def coS (t : Nat → Nat) (n : Nat) (σ τ : ST) (a b : Int32) : SS := (t, n, σ, τ, if inR a (σ 2 0) ∧ inR b 17 then oI (cpf σ (nn a) (nn b) (σ 2 0)).1 else -2)
def peg (σ : ST) (l o : Nat) : Bool := !(σ 18 0).testBit l && decide (σ 16 l = 1) && decide (σ 17 l = o)
def ond (σ : ST) (l y u : Nat) : Bool := if u = 1 then decide (σ 14 l = y ∧ σ 15 l = y) else decide (σ 14 l ≤ y ∧ y ≤ σ 15 l)
def stS (t : Nat → Nat) (n : Nat) (σ τ : ST) (a1 a2 a3 : Int32) : SS := (t, n, σ, τ, if inR a1 4 ∧ inR a2 60 ∧ inR a3 2 then nI (cnt1 (fun l => peg σ l (nn a1) && ond σ l (nn a2) (nn a3)) (σ 11 0)) else -2)
def gpd (σ : ST) (o : Nat) : Nat → Nat
  | 0 => 0
  | l + 1 => gpd σ o l ||| (if peg σ l o = true then ld σ l else 0)
/-- the longest hole so far, and the last day seen (and one) -/
def gph (D : Nat) : Nat → Nat × Nat
  | 0 => (0, 0)
  | y + 1 => if D.testBit y = true then (if (gph D y).2 = 0 then 0 else if (gph D y).1 < y - (gph D y).2 then y - (gph D y).2 else (gph D y).1, y + 1) else gph D y
theorem gph_le (D : Nat) : ∀ y, (gph D y).1 ≤ y ∧ (gph D y).2 ≤ y ∧ ((gph D y).2 = 0 → (gph D y).1 = 0)
  | 0 => ⟨Nat.le_refl 0, Nat.le_refl 0, fun _ => rfl⟩
  | y + 1 => by
    obtain ⟨h1, h2, h3⟩ := gph_le D y
    unfold gph
    split
    · refine ⟨?_, Nat.le_refl _, fun z => by simp at z⟩
      show (if _ then _ else _) ≤ y + 1
      split
      · omega
      · split <;> omega
    · exact ⟨by omega, by omega, h3⟩
def gaS (t : Nat → Nat) (n : Nat) (σ τ : ST) (a : Int32) : SS := (t, n, σ, τ, if inR a 4 then nI (gph (gpd σ (nn a) (σ 11 0)) 60).1 else -2)
def usn (σ : ST) : Nat → Nat
  | 0 => 0
  | l + 1 => usn σ l + pcn (σ 13 l) 16
theorem usn_le (σ : ST) : ∀ l, usn σ l ≤ 16 * l
  | 0 => Nat.le_refl 0
  | l + 1 => by
    have := usn_le σ l
    have := pcn_le (σ 13 l) 16
    unfold usn
    omega
def ctA (n : Nat) (σ τ : ST) (a : Int32) : Int32 := if a = nI 0 then nI (σ 2 0) else if a = nI 1 then nI (cnt1 (fun r => decide (σ 4 r = 0)) (σ 2 0)) else if a = nI 2 then nI (σ 11 0) else if a = nI 3 then nI (σ 18 0) else if a = nI 4 then nI (σ 6 0) else if a = nI 5 then nI n else if a = nI 6 then nI (usn σ (σ 11 0)) else if a = nI 7 then -2 else if a = nI 8 then nI (τ 23 0) else -2
def ctS (t : Nat → Nat) (n : Nat) (σ τ : ST) (a : Int32) : SS := (t, n, σ, τ, ctA n σ τ a)
/-- lumps that are there -/
def prs (σ : ST) : Nat := 2 ^ σ 11 0 - 1 &&& (σ 18 0 ^^^ 4294967295)
theorem prs_tb {σ : ST} {l : Nat} (hl : l < σ 11 0) (h : σ 11 0 ≤ 12) : (prs σ).testBit l = !(σ 18 0).testBit l := by
  unfold prs
  rw [Nat.testBit_and, Nat.testBit_two_pow_sub_one, Nat.testBit_xor, tb_ff (by omega)]
  simp [hl]
theorem prs_lt (σ : ST) : prs σ < 2 ^ σ 11 0 := by
  have h1 : prs σ ≤ 2 ^ σ 11 0 - 1 := Nat.and_le_left
  have h2 : 1 ≤ 2 ^ σ 11 0 := Nat.one_le_two_pow
  omega
section DOORS
variable {X : AX} {d : Nat} {Q : Option Value → AH → Prop} {g : Nat → Nat → Int32} {hj : Nat → Nat → Int64} {σ τ : ST} {a1 a2 a3 : Int32} {t : Nat → Nat} {n : Nat} {h : AH}
theorem stone_lt {σ : ST} (w : WF σ) : ∀ m r, r < σ 2 0 → stn σ m r < σ 2 0
  | 0, r, hr => hr
  | m + 1, r, hr => by
    have := (w.2.1.2 r hr).2.1
    unfold stn
    split
    · exact hr
    · exact stone_lt w m _ (by omega)
theorem l_C_copyOf {x m : Nat} (c : C0 σ g hj) (hx : x < σ 2 0) (hm : m ≤ 16) : ∀ (k i : Nat) (v6 : Value), i + k = σ 2 0 → wp X (d + 3) m_C_copyOf 30 [.ref 0, .int (nI x), .int (nI m), .int (oI (cpf σ x m i).1), .int (nI (cpf σ x m i).2), .int (nI i), v6] [] (HP g hj) Q = Q (some (.int (oI (cpf σ x m (σ 2 0)).1))) (HP g hj)
  | 0, i, v6, hi => by
    have w := c.1.2.1.1
    have e0 := c.2.1.1
    have : i = σ 2 0 := by omega
    subst this
    rw [s_C_copyOf_30]
    simp (disch := omega) only [↓s_C_copyOf_32, ↓s_C_copyOf_33, ↓s_C_copyOf_36, ↓s_C_copyOf_39, ↓s_C_copyOf_94, ↓s_C_copyOf_95, nI_leI, nI_ltI, nI_eq, N_z, nI_add, pk_sub, pk_mul, kL_i, kL_r, kL_d, kL_l, kL_k, kL_f, Option.toList_some, Option.toList_none, List.cons_append, List.nil_append, bI_z, N_and, N_or, N_shl, N_shr, Nat.one_mul, Nat.reduceAdd, lg_cmp_eq, L_and, L_or, bI_1, bI_0, if_true, if_false, reduceIte, N_m1x, ite_not, e0, Nat.le_refl]
  | k + 1, i, v6, hi => by
    have w := c.1.2.1.1
    have e0 := c.2.1.1
    obtain ⟨p1, p2, p3⟩ := cpf_le σ x hm i
    have p4 := nrn_le σ x i 4
    have s1 : stone σ i < σ 2 0 := stone_lt c.1 6 i (by omega)
    have s2 : stone σ x < σ 2 0 := stone_lt c.1 6 x hx
    have e : cpf σ x m (i + 1) = if ¬ stone σ i = stone σ x ∧ nrn σ x i 4 < (cpf σ x m i).2 then (i + 1, nrn σ x i 4) else cpf σ x m i := rfl
    rw [s_C_copyOf_30]
    simp (disch := omega) only [↓s_C_copyOf_32, ↓s_C_copyOf_33, ↓s_C_copyOf_36, ↓s_C_copyOf_39, ↓s_C_copyOf_42, ↓s_C_copyOf_43, ↓s_C_copyOf_46, ↓s_C_copyOf_48, ↓s_C_copyOf_51, ↓s_C_copyOf_52, ↓s_C_copyOf_55, ↓s_C_copyOf_56, ↓s_C_copyOf_59, ↓s_C_copyOf_62, ↓s_C_copyOf_63, ↓s_C_copyOf_66, ↓s_C_copyOf_67, ↓s_C_copyOf_69, ↓s_C_copyOf_72, ↓s_C_copyOf_74, ↓s_C_copyOf_76, ↓s_C_copyOf_78, ↓s_C_copyOf_81, ↓s_C_copyOf_83, ↓s_C_copyOf_85, ↓s_C_copyOf_87, ↓s_C_copyOf_88, ↓s_C_copyOf_91, nI_leI, nI_ltI, nI_eq, N_z, nI_add, pk_sub, pk_mul, kL_i, kL_r, kL_d, kL_l, kL_k, kL_f, Option.toList_some, Option.toList_none, List.cons_append, List.nil_append, bI_z, N_and, N_or, N_shl, N_shr, Nat.one_mul, Nat.reduceAdd, lg_cmp_eq, L_and, L_or, bI_1, bI_0, if_true, if_false, reduceIte, N_m1x, ite_not, e0, c_Rings_stoneOf c.1 c.2.1, c_unlikeCells c]
    rw [if_neg (by omega)]
    by_cases h1 : stone σ i = stone σ x
    · rw [if_pos h1]
      rw [if_neg (fun z => z.1 h1)] at e
      rw [← e]
      exact l_C_copyOf c hx hm k (i + 1) _ (by omega)
    · rw [if_neg h1]
      by_cases h2 : nrn σ x i 4 < (cpf σ x m i).2
      · rw [if_neg (by omega)]
        rw [if_pos ⟨h1, h2⟩] at e
        have := l_C_copyOf c hx hm k (i + 1) (.int (nI (nrn σ x i 4))) (by omega)
        rw [e] at this
        exact this
      · rw [if_pos (by omega)]
        rw [if_neg (fun z => h2 z.2)] at e
        rw [← e]
        exact l_C_copyOf c hx hm k (i + 1) _ (by omega)
theorem p_C_copyOf (c : CR t n σ τ g hj) (K : KC g hj Q (coS t n σ τ a1 a2)) : cwp X (d + 3) m_C_copyOf [.ref 0, .int a1, .int a2] (HP g hj) Q := by
  have w := c.2.1.1.2.1.1
  refine (?_ : _ = _).mpr (KC_0 c K)
  simp only [e_C_copyOf, ↓s_C_copyOf_0, ↓s_C_copyOf_1, ↓s_C_copyOf_2, ↓s_C_copyOf_5, ↓s_C_copyOf_8, ↓s_C_copyOf_9, ↓s_C_copyOf_11, ↓s_C_copyOf_14, ↓s_C_copyOf_17, ↓s_C_copyOf_19, c_C_isRing c.2.1, c_C_isBelowN, nI_leI, nI_ltI, nI_eq, N_z, nI_add, pk_sub, pk_mul, kL_i, kL_r, kL_d, kL_l, kL_k, kL_f, Option.toList_some, Option.toList_none, List.cons_append, List.nil_append, bI_z, N_and, N_or, N_shl, N_shr, Nat.one_mul, Nat.reduceAdd, lg_cmp_eq, L_and, L_or, bI_1, bI_0, if_true, if_false, reduceIte, N_m1x, ite_not, Qi, ita]
  refine itc (fun h1 => itc (fun h2 => ?_))
  obtain ⟨x, hx, rfl⟩ := inR_n h1 (by omega)
  obtain ⟨m, hm, rfl⟩ := inR_n h2 (by omega)
  rw [nn_n (by omega), nn_n (by omega)]
  simp (disch := omega) only [↓s_C_copyOf_20, ↓s_C_copyOf_21, ↓s_C_copyOf_22, ↓s_C_copyOf_23, ↓s_C_copyOf_24, ↓s_C_copyOf_25, ↓s_C_copyOf_27, ↓s_C_copyOf_28, nI_leI, nI_ltI, nI_eq, N_z, nI_add, pk_sub, pk_mul, kL_i, kL_r, kL_d, kL_l, kL_k, kL_f, Option.toList_some, Option.toList_none, List.cons_append, List.nil_append, bI_z, N_and, N_or, N_shl, N_shr, Nat.one_mul, Nat.reduceAdd, lg_cmp_eq, L_and, L_or, bI_1, bI_0, if_true, if_false, reduceIte, N_m1x, ite_not]
  exact l_C_copyOf c.2.1 hx (by omega) (σ 2 0) 0 _ (by omega)
theorem l_M_copyOf {x m : Nat} (c : M0 σ g hj) (hx : x < σ 2 0) (hm : m ≤ 16) : ∀ (k i : Nat) (v6 : Value), i + k = σ 2 0 → wp X (d + 4) m_M_copyOf 29 [.ref 51, .int (nI x), .int (nI m), .int (oI (cpf σ x m i).1), .int (nI (if (cpf σ x m i).1 = 0 then m else (cpf σ x m i).2)), .int (nI i), v6] [] (HP g hj) Q = Q (some (.int (oI (cpf σ x m (σ 2 0)).1))) (HP g hj)
  | 0, i, v6, hi => by
    have w := c.1.2.1.1
    have e0 := c.2.1.1
    have : i = σ 2 0 := by omega
    subst this
    rw [s_M_copyOf_29]
    simp (disch := omega) only [↓s_M_copyOf_31, ↓s_M_copyOf_32, ↓s_M_copyOf_35, ↓s_M_copyOf_93, ↓s_M_copyOf_94, nI_leI, nI_ltI, nI_eq, N_z, nI_add, pk_sub, pk_mul, kL_i, kL_r, kL_d, kL_l, kL_k, kL_f, Option.toList_some, Option.toList_none, List.cons_append, List.nil_append, bI_z, N_and, N_or, N_shl, N_shr, Nat.one_mul, Nat.reduceAdd, lg_cmp_eq, L_and, L_or, bI_1, bI_0, if_true, if_false, reduceIte, N_m1x, ite_not, e0, Nat.le_refl]
  | k + 1, i, v6, hi => by
    have w := c.1.2.1.1
    have e0 := c.2.1.1
    obtain ⟨p1, p2, p3⟩ := cpf_le σ x hm i
    have p4 := nrn_le σ x i 4
    have s1 : stone σ i < σ 2 0 := stone_lt c.1 6 i (by omega)
    have s2 : stone σ x < σ 2 0 := stone_lt c.1 6 x hx
    have e : cpf σ x m (i + 1) = if ¬ stone σ i = stone σ x ∧ nrn σ x i 4 < (cpf σ x m i).2 then (i + 1, nrn σ x i 4) else cpf σ x m i := rfl
    have p5 : (if (cpf σ x m i).1 = 0 then m else (cpf σ x m i).2) ≤ 17 := by split <;> omega
    rw [s_M_copyOf_29]
    simp (disch := omega) only [↓s_M_copyOf_31, ↓s_M_copyOf_32, ↓s_M_copyOf_35, ↓s_M_copyOf_38, ↓s_M_copyOf_39, ↓s_M_copyOf_41, ↓s_M_copyOf_44, ↓s_M_copyOf_45, ↓s_M_copyOf_46, ↓s_M_copyOf_49, nI_leI, nI_ltI, nI_eq, N_z, nI_add, pk_sub, pk_mul, kL_i, kL_r, kL_d, kL_l, kL_k, kL_f, Option.toList_some, Option.toList_none, List.cons_append, List.nil_append, bI_z, N_and, N_or, N_shl, N_shr, Nat.one_mul, Nat.reduceAdd, lg_cmp_eq, L_and, L_or, bI_1, bI_0, if_true, if_false, reduceIte, N_m1x, ite_not, e0, c_M_stoneOf c.1 c.2.1]
    rw [if_neg (by omega)]
    by_cases h1 : stone σ i = stone σ x
    · rw [if_pos h1]
      rw [if_neg (fun z => z.1 h1)] at e
      rw [← e]
      simp (disch := omega) only [↓s_M_copyOf_87, ↓s_M_copyOf_90, nI_leI, nI_ltI, nI_eq, N_z, nI_add, pk_sub, pk_mul, kL_i, kL_r, kL_d, kL_l, kL_k, kL_f, Option.toList_some, Option.toList_none, List.cons_append, List.nil_append, bI_z, N_and, N_or, N_shl, N_shr, Nat.one_mul, Nat.reduceAdd, lg_cmp_eq, L_and, L_or, bI_1, bI_0, if_true, if_false, reduceIte, N_m1x, ite_not]
      exact l_M_copyOf c hx hm k (i + 1) _ (by omega)
    · rw [if_neg h1]
      simp (disch := omega) only [↓s_M_copyOf_52, ↓s_M_copyOf_53, ↓s_M_copyOf_54, ↓s_M_copyOf_56, ↓s_M_copyOf_59, ↓s_M_copyOf_61, ↓s_M_copyOf_63, ↓s_M_copyOf_65, ↓s_M_copyOf_68, ↓s_M_copyOf_69, ↓s_M_copyOf_70, ↓s_M_copyOf_73, ↓s_M_copyOf_75, ↓s_M_copyOf_77, nI_leI, nI_ltI, nI_eq, N_z, nI_add, pk_sub, pk_mul, kL_i, kL_r, kL_d, kL_l, kL_k, kL_f, Option.toList_some, Option.toList_none, List.cons_append, List.nil_append, bI_z, N_and, N_or, N_shl, N_shr, Nat.one_mul, Nat.reduceAdd, lg_cmp_eq, L_and, L_or, bI_1, bI_0, if_true, if_false, reduceIte, N_m1x, ite_not, c_M_nearOf c, oI_m1]
      have up : nrn σ x i 4 < (cpf σ x m i).2 → wp X (d + 4) m_M_copyOf 80 [.ref 51, .int (nI x), .int (nI m), .int (oI (cpf σ x m i).1), .int (nI (if (cpf σ x m i).1 = 0 then m else (cpf σ x m i).2)), .int (nI i), .int (nI (nrn σ x i 4))] [] (HP g hj) Q = Q (some (.int (oI (cpf σ x m (σ 2 0)).1))) (HP g hj) := by
        intro h2
        rw [if_pos ⟨h1, h2⟩] at e
        simp (disch := omega) only [↓s_M_copyOf_80, ↓s_M_copyOf_82, ↓s_M_copyOf_83, ↓s_M_copyOf_85, ↓s_M_copyOf_87, ↓s_M_copyOf_90, nI_leI, nI_ltI, nI_eq, N_z, nI_add, pk_sub, pk_mul, kL_i, kL_r, kL_d, kL_l, kL_k, kL_f, Option.toList_some, Option.toList_none, List.cons_append, List.nil_append, bI_z, N_and, N_or, N_shl, N_shr, Nat.one_mul, Nat.reduceAdd, lg_cmp_eq, L_and, L_or, bI_1, bI_0, if_true, if_false, reduceIte, N_m1x, ite_not]
        have := l_M_copyOf c hx hm k (i + 1) (.int (nI (nrn σ x i 4))) (by omega)
        rw [e, if_neg (by simp)] at this
        exact this
      have st : ¬ nrn σ x i 4 < (cpf σ x m i).2 → wp X (d + 4) m_M_copyOf 87 [.ref 51, .int (nI x), .int (nI m), .int (oI (cpf σ x m i).1), .int (nI (if (cpf σ x m i).1 = 0 then m else (cpf σ x m i).2)), .int (nI i), .int (nI (nrn σ x i 4))] [] (HP g hj) Q = Q (some (.int (oI (cpf σ x m (σ 2 0)).1))) (HP g hj) := by
        intro h2
        rw [if_neg (fun z => h2 z.2)] at e
        simp (disch := omega) only [↓s_M_copyOf_87, ↓s_M_copyOf_90, nI_leI, nI_ltI, nI_eq, N_z, nI_add, pk_sub, pk_mul, kL_i, kL_r, kL_d, kL_l, kL_k, kL_f, Option.toList_some, Option.toList_none, List.cons_append, List.nil_append, bI_z, N_and, N_or, N_shl, N_shr, Nat.one_mul, Nat.reduceAdd, lg_cmp_eq, L_and, L_or, bI_1, bI_0, if_true, if_false, reduceIte, N_m1x, ite_not]
        rw [← e]
        exact l_M_copyOf c hx hm k (i + 1) _ (by omega)
      by_cases h3 : (cpf σ x m i).1 = 0
      · have p6 := p3 h3
        simp only [h3, if_true] at up st ⊢
        by_cases h2 : nrn σ x i 4 < m
        · rw [if_pos h2]
          exact up (by omega)
        · rw [if_neg h2]
          by_cases h4 : nrn σ x i 4 = m
          · rw [if_pos h4]
            exact up (by omega)
          · rw [if_neg h4]
            exact st (by omega)
      · simp only [h3, if_false] at up st ⊢
        by_cases h2 : nrn σ x i 4 < (cpf σ x m i).2
        · rw [if_pos h2]
          exact up h2
        · rw [if_neg h2]
          exact st h2
theorem p_M_copyOf (c : MR t n σ τ g hj) (K : KM g hj Q (coS t n σ τ a1 a2)) : cwp X (d + 4) m_M_copyOf [.ref 51, .int a1, .int a2] (HP g hj) Q := by
  have w := c.2.1.1.2.1.1
  refine (?_ : _ = _).mpr (KM_0 c K)
  simp (disch := omega) only [e_M_copyOf, ↓s_M_copyOf_0, ↓s_M_copyOf_1, ↓s_M_copyOf_2, ↓s_M_copyOf_5, ↓s_M_copyOf_8, ↓s_M_copyOf_9, ↓s_M_copyOf_10, ↓s_M_copyOf_12, ↓s_M_copyOf_15, ↓s_M_copyOf_18, ↓s_M_copyOf_20, c_M_isRing c.2.1, c_M_in, in_c, nI_leI, nI_ltI, nI_eq, N_z, nI_add, pk_sub, pk_mul, kL_i, kL_r, kL_d, kL_l, kL_k, kL_f, Option.toList_some, Option.toList_none, List.cons_append, List.nil_append, bI_z, N_and, N_or, N_shl, N_shr, Nat.one_mul, Nat.reduceAdd, lg_cmp_eq, L_and, L_or, bI_1, bI_0, if_true, if_false, reduceIte, N_m1x, ite_not, Qi, ita]
  refine itc (fun h1 => itc (fun h2 => ?_))
  obtain ⟨x, hx, rfl⟩ := inR_n h1 (by omega)
  obtain ⟨m, hm, rfl⟩ := inR_n h2 (by omega)
  rw [nn_n (by omega), nn_n (by omega)]
  simp (disch := omega) only [↓s_M_copyOf_21, ↓s_M_copyOf_22, ↓s_M_copyOf_23, ↓s_M_copyOf_24, ↓s_M_copyOf_26, ↓s_M_copyOf_27, nI_leI, nI_ltI, nI_eq, N_z, nI_add, pk_sub, pk_mul, kL_i, kL_r, kL_d, kL_l, kL_k, kL_f, Option.toList_some, Option.toList_none, List.cons_append, List.nil_append, bI_z, N_and, N_or, N_shl, N_shr, Nat.one_mul, Nat.reduceAdd, lg_cmp_eq, L_and, L_or, bI_1, bI_0, if_true, if_false, reduceIte, N_m1x, ite_not]
  exact l_M_copyOf c.2.1 hx (by omega) (σ 2 0) 0 _ (by omega)
theorem c_isPegAt {l o : Nat} (c : C0 σ g hj) (hl : l < σ 11 0) (ho : o < 4) : cwp X (d + 2) m_Lumps_isPegAt [.ref 10, .int (nI l), .int (nI o)] (HP g hj) Q = Q (some (.int (bI (peg σ l o = true)))) (HP g hj) := by
  have w := c.1.2.2.2.1.1
  obtain ⟨f0, f1, f2, f3, f4, f5⟩ := c.2.2.2.2.2 l hl
  obtain ⟨x0, x1, x2, x3, x4, x5, x6⟩ := c.1.2.2.2.1.2 l hl
  simp (disch := omega) only [e_Lumps_isPegAt, ↓s_Lumps_isPegAt_0, ↓s_Lumps_isPegAt_1, ↓s_Lumps_isPegAt_2, ↓s_Lumps_isPegAt_5, ↓s_Lumps_isPegAt_8, ↓s_Lumps_isPegAt_9, ↓s_Lumps_isPegAt_12, ↓s_Lumps_isPegAt_13, ↓s_Lumps_isPegAt_14, ↓s_Lumps_isPegAt_15, ↓s_Lumps_isPegAt_18, ↓s_Lumps_isPegAt_19, ↓s_Lumps_isPegAt_22, ↓s_Lumps_isPegAt_23, ↓s_Lumps_isPegAt_24, ↓s_Lumps_isPegAt_25, ↓s_Lumps_isPegAt_28, ↓s_Lumps_isPegAt_29, ↓s_Lumps_isPegAt_32, ↓s_Lumps_isPegAt_33_0, ↓s_Lumps_isPegAt_33_1, ↓s_Lumps_isPegAt_33_b, c_Lumps_isAside c, nI_leI, nI_ltI, nI_eq, N_z, nI_add, pk_sub, pk_mul, kL_i, kL_r, kL_d, kL_l, kL_k, kL_f, Option.toList_some, Option.toList_none, List.cons_append, List.nil_append, bI_z, N_and, N_or, N_shl, N_shr, Nat.one_mul, Nat.reduceAdd, lg_cmp_eq, L_and, L_or, bI_1, bI_0, if_true, if_false, reduceIte, N_m1x, ite_not, f4, f5]
  unfold peg
  by_cases h1 : (σ 18 0).testBit l = true
  · rw [if_pos h1, bI_f (by simp [h1])]
  rw [if_neg h1]
  by_cases h2 : σ 16 l = 1
  case neg => rw [if_neg h2, bI_f (by simp [h2])]
  rw [if_pos h2]
  by_cases h3 : σ 17 l = o
  · rw [if_pos h3, bI_t (by simp [h1, h2, h3])]
  · rw [if_neg h3, bI_f (by simp [h3])]
theorem c_M_present (c : M0 σ g hj) : cwp X (d + 1) m_M_present [.ref 51] (HP g hj) Q = Q (some (.int (nI (prs σ)))) (HP g hj) := by
  have e := c.2.2.2.2.1
  simp only [e_M_present, ↓s_M_present_0, ↓s_M_present_1, ↓s_M_present_4, ↓s_M_present_5, ↓s_M_present_8, ↓s_M_present_9, ↓s_M_present_10, ↓s_M_present_11, c_M_allLumps c, nI_leI, nI_ltI, nI_eq, N_z, nI_add, pk_sub, pk_mul, kL_i, kL_r, kL_d, kL_l, kL_k, kL_f, Option.toList_some, Option.toList_none, List.cons_append, List.nil_append, bI_z, N_and, N_or, N_shl, N_shr, Nat.one_mul, Nat.reduceAdd, lg_cmp_eq, L_and, L_or, bI_1, bI_0, if_true, if_false, reduceIte, N_m1x, ite_not, e]
  rfl
theorem c_M_isPeg {l o : Nat} (c : M0 σ g hj) (hl : l < σ 11 0) (ho : o < 4) : cwp X (d + 2) m_M_isPeg [.ref 51, .int (nI l), .int (nI o)] (HP g hj) Q = Q (some (.int (bI (peg σ l o = true)))) (HP g hj) := by
  have w := c.1.2.2.2.1.1
  have w3 : 2 ^ σ 11 0 ≤ 2 ^ 12 := pow_le w
  have w4 := prs_lt σ
  obtain ⟨f0, f1, f2, f3, f4, f5⟩ := c.2.2.2.2.2 l hl
  obtain ⟨x0, x1, x2, x3, x4, x5, x6⟩ := c.1.2.2.2.1.2 l hl
  simp (disch := omega) only [e_M_isPeg, ↓s_M_isPeg_0, ↓s_M_isPeg_1, ↓s_M_isPeg_4, ↓s_M_isPeg_5, ↓s_M_isPeg_8, ↓s_M_isPeg_11, ↓s_M_isPeg_12, ↓s_M_isPeg_15, ↓s_M_isPeg_16, ↓s_M_isPeg_17, ↓s_M_isPeg_18, ↓s_M_isPeg_21, ↓s_M_isPeg_22, ↓s_M_isPeg_25, ↓s_M_isPeg_26, ↓s_M_isPeg_27, ↓s_M_isPeg_28, ↓s_M_isPeg_31, ↓s_M_isPeg_32, ↓s_M_isPeg_35, ↓s_M_isPeg_36_0, ↓s_M_isPeg_36_1, ↓s_M_isPeg_36_b, c_M_present c, c_M_has, nI_leI, nI_ltI, nI_eq, N_z, nI_add, pk_sub, pk_mul, kL_i, kL_r, kL_d, kL_l, kL_k, kL_f, Option.toList_some, Option.toList_none, List.cons_append, List.nil_append, bI_z, N_and, N_or, N_shl, N_shr, Nat.one_mul, Nat.reduceAdd, lg_cmp_eq, L_and, L_or, bI_1, bI_0, if_true, if_false, reduceIte, N_m1x, ite_not, f4, f5]
  rw [prs_tb hl w]
  unfold peg
  by_cases h1 : (σ 18 0).testBit l = true
  · rw [if_neg (by simp [h1]), bI_f (by simp [h1])]
  rw [if_pos (by simp [h1])]
  by_cases h2 : σ 16 l = 1
  case neg => rw [if_neg h2, bI_f (by simp [h2])]
  rw [if_pos h2]
  by_cases h3 : σ 17 l = o
  · rw [if_pos h3, bI_t (by simp [h1, h2, h3])]
  · rw [if_neg h3, bI_f (by simp [h3])]
theorem c_isOnDay {l y u : Nat} (c : C0 σ g hj) (hl : l < σ 11 0) (hy : y < 60) (hu : u < 2) : cwp X d m_Lumps_isOnDay [.ref 10, .int (nI l), .int (nI y), .int (nI u)] (HP g hj) Q = Q (some (.int (bI (ond σ l y u = true)))) (HP g hj) := by
  have w := c.1.2.2.2.1.1
  obtain ⟨f0, f1, f2, f3, f4, f5⟩ := c.2.2.2.2.2 l hl
  obtain ⟨x0, x1, x2, x3, x4, x5, x6⟩ := c.1.2.2.2.1.2 l hl
  simp (disch := omega) only [e_Lumps_isOnDay, ↓s_Lumps_isOnDay_0, ↓s_Lumps_isOnDay_1, ↓s_Lumps_isOnDay_4, ↓s_Lumps_isOnDay_5, ↓s_Lumps_isOnDay_8, ↓s_Lumps_isOnDay_9, ↓s_Lumps_isOnDay_10, ↓s_Lumps_isOnDay_11, ↓s_Lumps_isOnDay_14, ↓s_Lumps_isOnDay_15, ↓s_Lumps_isOnDay_18, ↓s_Lumps_isOnDay_19, ↓s_Lumps_isOnDay_20, ↓s_Lumps_isOnDay_21, ↓s_Lumps_isOnDay_24, ↓s_Lumps_isOnDay_25, ↓s_Lumps_isOnDay_28, ↓s_Lumps_isOnDay_29_0, ↓s_Lumps_isOnDay_29_1, ↓s_Lumps_isOnDay_29_b, ↓s_Lumps_isOnDay_30, ↓s_Lumps_isOnDay_31, ↓s_Lumps_isOnDay_34, ↓s_Lumps_isOnDay_35, ↓s_Lumps_isOnDay_36, ↓s_Lumps_isOnDay_37, ↓s_Lumps_isOnDay_40, ↓s_Lumps_isOnDay_41, ↓s_Lumps_isOnDay_42, ↓s_Lumps_isOnDay_45, ↓s_Lumps_isOnDay_46, ↓s_Lumps_isOnDay_47, ↓s_Lumps_isOnDay_50, ↓s_Lumps_isOnDay_51, ↓s_Lumps_isOnDay_54, ↓s_Lumps_isOnDay_55_0, ↓s_Lumps_isOnDay_55_1, ↓s_Lumps_isOnDay_55_b, nI_leI, nI_ltI, nI_eq, N_z, nI_add, pk_sub, pk_mul, kL_i, kL_r, kL_d, kL_l, kL_k, kL_f, Option.toList_some, Option.toList_none, List.cons_append, List.nil_append, bI_z, N_and, N_or, N_shl, N_shr, Nat.one_mul, Nat.reduceAdd, lg_cmp_eq, L_and, L_or, bI_1, bI_0, if_true, if_false, reduceIte, N_m1x, ite_not, f2, f3]
  unfold ond
  rcases (show u = 0 ∨ u = 1 by omega) with rfl | rfl
  · rw [if_pos rfl, if_neg (show ¬ (0 : Nat) = 1 by omega)]
    by_cases h2 : y < σ 14 l
    · rw [if_pos h2, bI_f (by simp; omega)]
    rw [if_neg h2]
    by_cases h3 : σ 15 l < y
    · rw [if_pos h3, bI_f (by simp; omega)]
    · rw [if_neg h3, bI_t (by simp; omega)]
  · rw [if_neg (show ¬ (1 : Nat) = 0 by omega), if_pos (show (1 : Nat) = 1 from rfl)]
    by_cases h2 : σ 14 l = y
    case neg => rw [if_neg h2, bI_f (by simp [h2])]
    rw [if_pos h2]
    by_cases h3 : σ 15 l = y
    · rw [if_pos h3, bI_t (by simp [h2, h3])]
    · rw [if_neg h3, bI_f (by simp [h3])]
theorem l_C_shut {o y u : Nat} (c : C0 σ g hj) (ho : o < 4) (hy : y < 60) (hu : u < 2) : ∀ (k i : Nat), i + k = σ 11 0 → wp X (d + 3) m_C_shut 32 [.ref 0, .int (nI o), .int (nI y), .int (nI u), .int (nI (cnt1 (fun l => peg σ l o && ond σ l y u) i)), .int (nI i)] [] (HP g hj) Q = Q (some (.int (nI (cnt1 (fun l => peg σ l o && ond σ l y u) (σ 11 0))))) (HP g hj)
  | 0, i, hi => by
    have w := c.1.2.2.2.1.1
    have e0 := c.2.2.2.1
    have : i = σ 11 0 := by omega
    subst this
    rw [s_C_shut_32]
    simp (disch := omega) only [↓s_C_shut_34, ↓s_C_shut_35, ↓s_C_shut_38, ↓s_C_shut_41, ↓s_C_shut_89, ↓s_C_shut_91, nI_leI, nI_ltI, nI_eq, N_z, nI_add, pk_sub, pk_mul, kL_i, kL_r, kL_d, kL_l, kL_k, kL_f, Option.toList_some, Option.toList_none, List.cons_append, List.nil_append, bI_z, N_and, N_or, N_shl, N_shr, Nat.one_mul, Nat.reduceAdd, lg_cmp_eq, L_and, L_or, bI_1, bI_0, if_true, if_false, reduceIte, N_m1x, ite_not, e0, Nat.le_refl]
  | k + 1, i, hi => by
    have w := c.1.2.2.2.1.1
    have e0 := c.2.2.2.1
    have e : cnt1 (fun l => peg σ l o && ond σ l y u) (i + 1) = cnt1 (fun l => peg σ l o && ond σ l y u) i + (if (peg σ i o && ond σ i y u) = true then 1 else 0) := rfl
    rw [s_C_shut_32]
    simp (disch := omega) only [↓s_C_shut_34, ↓s_C_shut_35, ↓s_C_shut_38, ↓s_C_shut_41, ↓s_C_shut_44, ↓s_C_shut_45, ↓s_C_shut_48, ↓s_C_shut_50, ↓s_C_shut_51, ↓s_C_shut_54, ↓s_C_shut_57, ↓s_C_shut_58, ↓s_C_shut_61, ↓s_C_shut_63, ↓s_C_shut_64, ↓s_C_shut_65, ↓s_C_shut_66, nI_leI, nI_ltI, nI_eq, N_z, nI_add, pk_sub, pk_mul, kL_i, kL_r, kL_d, kL_l, kL_k, kL_f, Option.toList_some, Option.toList_none, List.cons_append, List.nil_append, bI_z, N_and, N_or, N_shl, N_shr, Nat.one_mul, Nat.reduceAdd, lg_cmp_eq, L_and, L_or, bI_1, bI_0, if_true, if_false, reduceIte, N_m1x, ite_not, e0, c_isPegAt c]
    rw [if_neg (by omega)]
    have K : peg σ i o = true → wp X (d + 3) m_C_shut 74 [.ref 0, .int (nI o), .int (nI y), .int (nI u), .int (nI (cnt1 (fun l => peg σ l o && ond σ l y u) i)), .int (nI i)] [.int (nI u), .int (nI y), .int (nI i), .ref 10] (HP g hj) Q = Q (some (.int (nI (cnt1 (fun l => peg σ l o && ond σ l y u) (σ 11 0))))) (HP g hj) := by
      intro h1
      simp (disch := omega) only [↓s_C_shut_74, ↓s_C_shut_77, ↓s_C_shut_80, ↓s_C_shut_83, ↓s_C_shut_86, nI_leI, nI_ltI, nI_eq, N_z, nI_add, pk_sub, pk_mul, kL_i, kL_r, kL_d, kL_l, kL_k, kL_f, Option.toList_some, Option.toList_none, List.cons_append, List.nil_append, bI_z, N_and, N_or, N_shl, N_shr, Nat.one_mul, Nat.reduceAdd, lg_cmp_eq, L_and, L_or, bI_1, bI_0, if_true, if_false, reduceIte, N_m1x, ite_not, c_isOnDay c]
      by_cases h2 : ond σ i y u = true
      · rw [if_pos h2]
        rw [if_pos (by simp [h1, h2])] at e
        rw [← e]
        exact l_C_shut c ho hy hu k (i + 1) (by omega)
      · rw [if_neg h2]
        rw [if_neg (by simp [h2]), Nat.add_zero (cnt1 _ i)] at e
        rw [← e]
        exact l_C_shut c ho hy hu k (i + 1) (by omega)
    by_cases h1 : peg σ i o = true
    · rw [if_pos h1]
      rcases (show u = 0 ∨ u = 1 by omega) with rfl | rfl
      · rw [if_neg (by omega)]
        simp only [↓s_C_shut_73]
        exact K h1
      · rw [if_pos rfl]
        simp only [↓s_C_shut_69, ↓s_C_shut_70]
        exact K h1
    · rw [if_neg h1]
      rw [if_neg (by simp [h1]), Nat.add_zero (cnt1 _ i)] at e
      rw [← e]
      simp (disch := omega) only [↓s_C_shut_83, ↓s_C_shut_86, nI_leI, nI_ltI, nI_eq, N_z, nI_add, pk_sub, pk_mul, kL_i, kL_r, kL_d, kL_l, kL_k, kL_f, Option.toList_some, Option.toList_none, List.cons_append, List.nil_append, bI_z, N_and, N_or, N_shl, N_shr, Nat.one_mul, Nat.reduceAdd, lg_cmp_eq, L_and, L_or, bI_1, bI_0, if_true, if_false, reduceIte, N_m1x, ite_not]
      exact l_C_shut c ho hy hu k (i + 1) (by omega)
theorem p_C_shut (c : CR t n σ τ g hj) (K : KC g hj Q (stS t n σ τ a1 a2 a3)) : cwp X (d + 3) m_C_shut [.ref 0, .int a1, .int a2, .int a3] (HP g hj) Q := by
  refine (?_ : _ = _).mpr (KC_0 c K)
  simp only [e_C_shut, ↓s_C_shut_0, ↓s_C_shut_1, ↓s_C_shut_2, ↓s_C_shut_5, ↓s_C_shut_8, ↓s_C_shut_9, ↓s_C_shut_12, ↓s_C_shut_15, ↓s_C_shut_16, ↓s_C_shut_17, ↓s_C_shut_20, ↓s_C_shut_23, ↓s_C_shut_25, c_C_isDay, c_C_isBelowN, nI_leI, nI_ltI, nI_eq, N_z, nI_add, pk_sub, pk_mul, kL_i, kL_r, kL_d, kL_l, kL_k, kL_f, Option.toList_some, Option.toList_none, List.cons_append, List.nil_append, bI_z, N_and, N_or, N_shl, N_shr, Nat.one_mul, Nat.reduceAdd, lg_cmp_eq, L_and, L_or, bI_1, bI_0, if_true, if_false, reduceIte, N_m1x, ite_not, Qi, ita]
  refine itc (fun h1 => itc (fun h2 => itc (fun h3 => ?_)))
  obtain ⟨o, ho, rfl⟩ := inR_n h1 (by omega)
  obtain ⟨y, hy, rfl⟩ := inR_n h2 (by omega)
  obtain ⟨u, hu, rfl⟩ := inR_n h3 (by omega)
  rw [nn_n (by omega), nn_n (by omega), nn_n (by omega)]
  simp (disch := omega) only [↓s_C_shut_26, ↓s_C_shut_27, ↓s_C_shut_29, ↓s_C_shut_30, nI_leI, nI_ltI, nI_eq, N_z, nI_add, pk_sub, pk_mul, kL_i, kL_r, kL_d, kL_l, kL_k, kL_f, Option.toList_some, Option.toList_none, List.cons_append, List.nil_append, bI_z, N_and, N_or, N_shl, N_shr, Nat.one_mul, Nat.reduceAdd, lg_cmp_eq, L_and, L_or, bI_1, bI_0, if_true, if_false, reduceIte, N_m1x, ite_not]
  exact l_C_shut c.2.1 ho hy hu (σ 11 0) 0 (by omega)
theorem l_M_shut {o y u : Nat} (c : M0 σ g hj) (ho : o < 4) (hy : y < 60) (hu : u < 2) : ∀ (k i : Nat) (v6 : Value), i + k = σ 11 0 → wp X (d + 3) m_M_shut 34 [.ref 51, .int (nI o), .int (nI y), .int (nI u), .int (nI (cnt1 (fun l => peg σ l o && ond σ l y u) i)), .int (nI i), v6] [] (HP g hj) Q = Q (some (.int (nI (cnt1 (fun l => peg σ l o && ond σ l y u) (σ 11 0))))) (HP g hj)
  | 0, i, v6, hi => by
    have w := c.1.2.2.2.1.1
    have e0 := c.2.2.2.1
    have : i = σ 11 0 := by omega
    subst this
    rw [s_M_shut_34]
    simp (disch := omega) only [↓s_M_shut_36, ↓s_M_shut_37, ↓s_M_shut_40, ↓s_M_shut_123, ↓s_M_shut_125, nI_leI, nI_ltI, nI_eq, N_z, nI_add, pk_sub, pk_mul, kL_i, kL_r, kL_d, kL_l, kL_k, kL_f, Option.toList_some, Option.toList_none, List.cons_append, List.nil_append, bI_z, N_and, N_or, N_shl, N_shr, Nat.one_mul, Nat.reduceAdd, lg_cmp_eq, L_and, L_or, bI_1, bI_0, if_true, if_false, reduceIte, N_m1x, ite_not, e0, Nat.le_refl]
  | k + 1, i, v6, hi => by
    have w := c.1.2.2.2.1.1
    have e0 := c.2.2.2.1
    obtain ⟨f0, f1, f2, f3, f4, f5⟩ := c.2.2.2.2.2 i (by omega)
    obtain ⟨x0, x1, x2, x3, x4, x5, x6⟩ := c.1.2.2.2.1.2 i (by omega)
    have e : cnt1 (fun l => peg σ l o && ond σ l y u) (i + 1) = cnt1 (fun l => peg σ l o && ond σ l y u) i + (if (peg σ i o && ond σ i y u) = true then 1 else 0) := rfl
    have T : ∀ v6, (peg σ i o && ond σ i y u) = true → wp X (d + 3) m_M_shut 114 [.ref 51, .int (nI o), .int (nI y), .int (nI u), .int (nI (cnt1 (fun l => peg σ l o && ond σ l y u) i)), .int (nI i), v6] [.int (nI 1), .int (nI (cnt1 (fun l => peg σ l o && ond σ l y u) i))] (HP g hj) Q = Q (some (.int (nI (cnt1 (fun l => peg σ l o && ond σ l y u) (σ 11 0))))) (HP g hj) := by
      intro v6 hh
      rw [if_pos hh] at e
      simp (disch := omega) only [↓s_M_shut_114, ↓s_M_shut_115, ↓s_M_shut_117, ↓s_M_shut_120, nI_leI, nI_ltI, nI_eq, N_z, nI_add, pk_sub, pk_mul, kL_i, kL_r, kL_d, kL_l, kL_k, kL_f, Option.toList_some, Option.toList_none, List.cons_append, List.nil_append, bI_z, N_and, N_or, N_shl, N_shr, Nat.one_mul, Nat.reduceAdd, lg_cmp_eq, L_and, L_or, bI_1, bI_0, if_true, if_false, reduceIte, N_m1x, ite_not, ← e]
      exact l_M_shut c ho hy hu k (i + 1) _ (by omega)
    have F : ∀ v6, ¬ (peg σ i o && ond σ i y u) = true → wp X (d + 3) m_M_shut 114 [.ref 51, .int (nI o), .int (nI y), .int (nI u), .int (nI (cnt1 (fun l => peg σ l o && ond σ l y u) i)), .int (nI i), v6] [.int (nI 0), .int (nI (cnt1 (fun l => peg σ l o && ond σ l y u) i))] (HP g hj) Q = Q (some (.int (nI (cnt1 (fun l => peg σ l o && ond σ l y u) (σ 11 0))))) (HP g hj) := by
      intro v6 hh
      rw [if_neg hh] at e
      simp (disch := omega) only [↓s_M_shut_114, ↓s_M_shut_115, ↓s_M_shut_117, ↓s_M_shut_120, nI_leI, nI_ltI, nI_eq, N_z, nI_add, pk_sub, pk_mul, kL_i, kL_r, kL_d, kL_l, kL_k, kL_f, Option.toList_some, Option.toList_none, List.cons_append, List.nil_append, bI_z, N_and, N_or, N_shl, N_shr, Nat.one_mul, Nat.reduceAdd, lg_cmp_eq, L_and, L_or, bI_1, bI_0, if_true, if_false, reduceIte, N_m1x, ite_not, ← e]
      exact l_M_shut c ho hy hu k (i + 1) _ (by omega)
    rw [s_M_shut_34]
    simp (disch := omega) only [↓s_M_shut_36, ↓s_M_shut_37, ↓s_M_shut_40, ↓s_M_shut_43, ↓s_M_shut_44, ↓s_M_shut_46, ↓s_M_shut_47, ↓s_M_shut_50, ↓s_M_shut_53, ↓s_M_shut_54, ↓s_M_shut_55, ↓s_M_shut_58, ↓s_M_shut_60, ↓s_M_shut_61, ↓s_M_shut_62, ↓s_M_shut_65, ↓s_M_shut_67, ↓s_M_shut_68, ↓s_M_shut_71, ↓s_M_shut_74, ↓s_M_shut_75, nI_leI, nI_ltI, nI_eq, N_z, nI_add, pk_sub, pk_mul, kL_i, kL_r, kL_d, kL_l, kL_k, kL_f, Option.toList_some, Option.toList_none, List.cons_append, List.nil_append, bI_z, N_and, N_or, N_shl, N_shr, Nat.one_mul, Nat.reduceAdd, lg_cmp_eq, L_and, L_or, bI_1, bI_0, if_true, if_false, reduceIte, N_m1x, ite_not, e0, c_M_isPeg c, c_M_in, f2, f3]
    rw [if_neg (by omega)]
    by_cases h1 : peg σ i o = true
    case neg =>
      rw [if_neg h1]
      simp (disch := omega) only [↓s_M_shut_78, ↓s_M_shut_79, ↓s_M_shut_81, ↓s_M_shut_83, ↓s_M_shut_85, ↓s_M_shut_88, ↓s_M_shut_89, ↓s_M_shut_92, ↓s_M_shut_93, ↓s_M_shut_96, ↓s_M_shut_98, ↓s_M_shut_99, ↓s_M_shut_100, ↓s_M_shut_103, ↓s_M_shut_105, ↓s_M_shut_106, ↓s_M_shut_109, ↓s_M_shut_110, ↓s_M_shut_113, nI_leI, nI_ltI, nI_eq, N_z, nI_add, pk_sub, pk_mul, kL_i, kL_r, kL_d, kL_l, kL_k, kL_f, Option.toList_some, Option.toList_none, List.cons_append, List.nil_append, bI_z, N_and, N_or, N_shl, N_shr, Nat.one_mul, Nat.reduceAdd, lg_cmp_eq, L_and, L_or, bI_1, bI_0, if_true, if_false, reduceIte, N_m1x, ite_not, Nat.one_ne_zero, Nat.zero_ne_one, eq_self, not_true_eq_false, not_false_eq_true]
      exact F _ (by simp [h1])
    rw [if_pos h1]
    by_cases h2 : σ 14 i ≤ y ∧ y ≤ σ 15 i
    case neg =>
      rw [if_neg h2]
      simp (disch := omega) only [↓s_M_shut_78, ↓s_M_shut_79, ↓s_M_shut_81, ↓s_M_shut_83, ↓s_M_shut_85, ↓s_M_shut_88, ↓s_M_shut_89, ↓s_M_shut_92, ↓s_M_shut_93, ↓s_M_shut_96, ↓s_M_shut_98, ↓s_M_shut_99, ↓s_M_shut_100, ↓s_M_shut_103, ↓s_M_shut_105, ↓s_M_shut_106, ↓s_M_shut_109, ↓s_M_shut_110, ↓s_M_shut_113, nI_leI, nI_ltI, nI_eq, N_z, nI_add, pk_sub, pk_mul, kL_i, kL_r, kL_d, kL_l, kL_k, kL_f, Option.toList_some, Option.toList_none, List.cons_append, List.nil_append, bI_z, N_and, N_or, N_shl, N_shr, Nat.one_mul, Nat.reduceAdd, lg_cmp_eq, L_and, L_or, bI_1, bI_0, if_true, if_false, reduceIte, N_m1x, ite_not, Nat.one_ne_zero, Nat.zero_ne_one, eq_self, not_true_eq_false, not_false_eq_true]
      refine F _ ?_
      unfold ond
      rcases (show u = 0 ∨ u = 1 by omega) with rfl | rfl
      · simp; intro; omega
      · simp; intro; omega
    rw [if_pos h2]
    simp (disch := omega) only [↓s_M_shut_79, ↓s_M_shut_81, ↓s_M_shut_83, ↓s_M_shut_85, ↓s_M_shut_88, ↓s_M_shut_89, ↓s_M_shut_92, ↓s_M_shut_93, ↓s_M_shut_96, ↓s_M_shut_98, ↓s_M_shut_99, ↓s_M_shut_100, ↓s_M_shut_103, ↓s_M_shut_105, ↓s_M_shut_106, ↓s_M_shut_109, ↓s_M_shut_110, ↓s_M_shut_113, nI_leI, nI_ltI, nI_eq, N_z, nI_add, pk_sub, pk_mul, kL_i, kL_r, kL_d, kL_l, kL_k, kL_f, Option.toList_some, Option.toList_none, List.cons_append, List.nil_append, bI_z, N_and, N_or, N_shl, N_shr, Nat.one_mul, Nat.reduceAdd, lg_cmp_eq, L_and, L_or, bI_1, bI_0, if_true, if_false, reduceIte, N_m1x, ite_not, Nat.one_ne_zero, Nat.zero_ne_one, eq_self, not_true_eq_false, not_false_eq_true, f2, f3]
    rcases (show u = 0 ∨ u = 1 by omega) with rfl | rfl
    · rw [if_pos rfl]
      exact T _ (by unfold ond; simp [h1, h2])
    · rw [if_neg (by omega)]
      by_cases h3 : σ 14 i = σ 15 i
      · rw [if_pos h3]
        exact T _ (by unfold ond; simp [h1]; omega)
      · rw [if_neg h3]
        exact F _ (by unfold ond; simp [h1]; omega)
theorem p_M_shut (c : MR t n σ τ g hj) (K : KM g hj Q (stS t n σ τ a1 a2 a3)) : cwp X (d + 3) m_M_shut [.ref 51, .int a1, .int a2, .int a3] (HP g hj) Q := by
  refine (?_ : _ = _).mpr (KM_0 c K)
  simp (disch := omega) only [e_M_shut, ↓s_M_shut_0, ↓s_M_shut_1, ↓s_M_shut_2, ↓s_M_shut_3, ↓s_M_shut_6, ↓s_M_shut_9, ↓s_M_shut_10, ↓s_M_shut_13, ↓s_M_shut_16, ↓s_M_shut_17, ↓s_M_shut_18, ↓s_M_shut_19, ↓s_M_shut_22, ↓s_M_shut_25, ↓s_M_shut_27, c_M_isDay, c_M_in, in_c, nI_leI, nI_ltI, nI_eq, N_z, nI_add, pk_sub, pk_mul, kL_i, kL_r, kL_d, kL_l, kL_k, kL_f, Option.toList_some, Option.toList_none, List.cons_append, List.nil_append, bI_z, N_and, N_or, N_shl, N_shr, Nat.one_mul, Nat.reduceAdd, lg_cmp_eq, L_and, L_or, bI_1, bI_0, if_true, if_false, reduceIte, N_m1x, ite_not, Qi, ita]
  refine itc (fun h1 => itc (fun h2 => itc (fun h3 => ?_)))
  obtain ⟨o, ho, rfl⟩ := inR_n h1 (by omega)
  obtain ⟨y, hy, rfl⟩ := inR_n h2 (by omega)
  obtain ⟨u, hu, rfl⟩ := inR_n h3 (by omega)
  rw [nn_n (by omega), nn_n (by omega), nn_n (by omega)]
  simp (disch := omega) only [↓s_M_shut_28, ↓s_M_shut_29, ↓s_M_shut_31, ↓s_M_shut_32, nI_leI, nI_ltI, nI_eq, N_z, nI_add, pk_sub, pk_mul, kL_i, kL_r, kL_d, kL_l, kL_k, kL_f, Option.toList_some, Option.toList_none, List.cons_append, List.nil_append, bI_z, N_and, N_or, N_shl, N_shr, Nat.one_mul, Nat.reduceAdd, lg_cmp_eq, L_and, L_or, bI_1, bI_0, if_true, if_false, reduceIte, N_m1x, ite_not]
  exact l_M_shut c.2.1 ho hy hu (σ 11 0) 0 _ (by omega)
end DOORS
