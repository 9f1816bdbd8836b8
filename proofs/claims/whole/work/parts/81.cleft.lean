/-! the class: the fewest lumps left out -/
def lp (Ls : List Nat) (x : Nat) : Nat → Nat
  | 0 => 0
  | p + 1 => if x.testBit p = true then lp Ls x p ||| 2 ^ Ls.getD p 0 else lp Ls x p
def lmm (σ : ST) (x : Nat) : Nat → Nat
  | 0 => 0
  | m + 1 => if (σ 18 0).testBit m = true then lmm σ x m else if x.testBit (pl σ m).length = true then lmm σ x m ||| 2 ^ m else lmm σ x m
section CLEFT
variable {X : AX} {d : Nat} {Q : Option Value → AH → Prop} {g : Nat → Nat → Int32} {hj : Nat → Nat → Int64} {σ τ : ST} {t : Nat → Nat} {n : Nat} {x y : Nat}
theorem lp_cg {Ls L2 : List Nat} : ∀ p, (∀ q, q < p → Ls.getD q 0 = L2.getD q 0) → lp Ls x p = lp L2 x p
  | 0, _ => rfl
  | p + 1, h => by
    unfold lp
    rw [lp_cg p (fun q hq => h q (by omega)), h p (by omega)]
theorem lp_tb {Ls : List Nat} {l : Nat} : ∀ p, (lp Ls x p).testBit l = true ↔ ∃ q, q < p ∧ x.testBit q = true ∧ l = Ls.getD q 0
  | 0 => by simp [lp]
  | p + 1 => by
    have ih := lp_tb (Ls := Ls) (l := l) p
    unfold lp
    by_cases h : x.testBit p = true
    · rw [if_pos h, or_tb, Bool.or_eq_true, ih, decide_eq_true_eq]
      constructor
      · rintro (⟨q, q1, q2⟩ | h2)
        · exact ⟨q, by omega, q2⟩
        · exact ⟨p, by omega, h, h2.symm⟩
      · rintro ⟨q, q1, q2, q3⟩
        by_cases e : q = p
        · subst e; exact Or.inr q3.symm
        · exact Or.inl ⟨q, by omega, q2, q3⟩
    · rw [if_neg h, ih]
      constructor
      · rintro ⟨q, q1, q2⟩; exact ⟨q, by omega, q2⟩
      · rintro ⟨q, q1, q2, q3⟩
        by_cases e : q = p
        · subst e; exact absurd q2 h
        · exact ⟨q, by omega, q2, q3⟩
theorem lmm_lt : ∀ m, lmm σ x m < 2 ^ m
  | 0 => by simp [lmm]
  | m + 1 => by
    have ih := lmm_lt m
    have e : 2 ^ (m + 1) = 2 ^ m + 2 ^ m := by rw [Nat.pow_succ]; omega
    unfold lmm
    split
    · omega
    · split
      · exact Nat.or_lt_two_pow (by omega) (by omega)
      · omega
theorem lmm_lp : ∀ m, lp (pl σ m) x (pl σ m).length = lmm σ x m
  | 0 => rfl
  | m + 1 => by
    have ih := lmm_lp m
    unfold pl lmm
    by_cases h : (σ 18 0).testBit m = true
    · rw [if_pos h, if_pos h]; exact ih
    · rw [if_neg h, if_neg h, List.length_append, List.length_singleton]
      unfold lp
      rw [lp_cg (L2 := pl σ m) (pl σ m).length (fun q hq => gD_l hq), ih, gD_r]
theorem lmm_pc : ∀ m, pcn (lmm σ x m) m = pcn x (pl σ m).length
  | 0 => rfl
  | m + 1 => by
    have ih := lmm_pc m
    have hl := lmm_lt (σ := σ) (x := x) m
    have hf : ¬ (lmm σ x m).testBit m = true := by rw [Nat.testBit_lt_two_pow hl]; decide
    have up := pcn_up hl 1
    unfold pl lmm
    by_cases h : (σ 18 0).testBit m = true
    · rw [if_pos h, if_pos h, up]; exact ih
    · rw [if_neg h, if_neg h, List.length_append, List.length_singleton]
      conv => rhs; unfold pcn
      rw [dm_tb]
      by_cases h2 : x.testBit (pl σ m).length = true
      · rw [if_pos h2, if_pos h2, pcn_or hf (m + 1) (by omega), up, ih]
      · rw [if_neg h2, if_neg h2, up, ih, Nat.add_zero]
theorem lmm_cg : ∀ m, (∀ p, p < (pl σ m).length → x.testBit p = y.testBit p) → lmm σ x m = lmm σ y m
  | 0, _ => rfl
  | m + 1, h => by
    unfold pl at h
    unfold lmm
    by_cases h1 : (σ 18 0).testBit m = true
    · rw [if_pos h1] at h
      rw [if_pos h1, if_pos h1]
      exact lmm_cg m h
    · rw [if_neg h1, List.length_append, List.length_singleton] at h
      rw [if_neg h1, if_neg h1, lmm_cg m (fun p hp => h p (by omega)), h _ (Nat.lt_succ_self _)]
theorem or_add {a m : Nat} (h : a < 2 ^ m) : a ||| 2 ^ m = a + 2 ^ m := by
  have := Nat.two_pow_add_eq_or_of_lt h 1
  rw [Nat.mul_one] at this
  rw [Nat.or_comm, ← this, Nat.add_comm]
theorem mod_s (a m : Nat) : a % 2 ^ (m + 1) = a % 2 ^ m + 2 ^ m * (a.testBit m).toNat := by
  rw [Nat.mod_pow_succ, dm_tb]
  cases a.testBit m <;> simp
theorem lmm_mono : ∀ m, x % 2 ^ (pl σ m).length ≤ y % 2 ^ (pl σ m).length → lmm σ x m ≤ lmm σ y m
  | 0, _ => Nat.le_refl _
  | m + 1, h => by
    unfold pl at h
    unfold lmm
    by_cases h1 : (σ 18 0).testBit m = true
    · rw [if_pos h1] at h
      rw [if_pos h1, if_pos h1]
      exact lmm_mono m h
    · rw [if_neg h1, List.length_append, List.length_singleton, mod_s, mod_s] at h
      have a1 := lmm_lt (σ := σ) (x := x) m
      have a2 := lmm_lt (σ := σ) (x := y) m
      have b1 := Nat.mod_lt x (Nat.two_pow_pos (pl σ m).length)
      have b2 := Nat.mod_lt y (Nat.two_pow_pos (pl σ m).length)
      rw [if_neg h1, if_neg h1, or_add a1, or_add a2]
      by_cases c1 : x.testBit (pl σ m).length = true
      · by_cases c2 : y.testBit (pl σ m).length = true
        · rw [c1, c2] at h
          have := lmm_mono m (show x % 2 ^ (pl σ m).length ≤ y % 2 ^ (pl σ m).length by omega)
          rw [if_pos c1, if_pos c2]; omega
        · have c3 : y.testBit (pl σ m).length = false := by simpa using c2
          rw [c1, c3] at h
          simp at h
          omega
      · have c3 : x.testBit (pl σ m).length = false := by simpa using c1
        by_cases c2 : y.testBit (pl σ m).length = true
        · rw [if_neg c1, if_pos c2]; omega
        · have c4 : y.testBit (pl σ m).length = false := by simpa using c2
          rw [c3, c4] at h
          have := lmm_mono m (show x % 2 ^ (pl σ m).length ≤ y % 2 ^ (pl σ m).length by simpa using h)
          rw [if_neg c1, if_neg c2]; omega
theorem lmm_ex : ∀ m o, o < 2 ^ m → (∀ i, i < m → o.testBit i = true → ¬ (σ 18 0).testBit i = true) → ∃ x, x < 2 ^ (pl σ m).length ∧ lmm σ x m = o
  | 0, o, h, _ => ⟨0, by simp [pl], by simp at h; subst h; rfl⟩
  | m + 1, o, h, ha => by
    obtain ⟨x, h1, h2⟩ := lmm_ex m (o % 2 ^ m) (Nat.mod_lt _ (Nat.two_pow_pos _)) (fun i hi hb => by
      rw [Nat.testBit_mod_two_pow] at hb
      simp at hb
      exact ha i (by omega) hb.2)
    have e := mod_s o m
    rw [Nat.mod_eq_of_lt h] at e
    by_cases hb : o.testBit m = true
    · have hna := ha m (by omega) hb
      rw [hb] at e
      refine ⟨x + 2 ^ (pl σ m).length, ?_, ?_⟩
      · have ep : pl σ (m + 1) = pl σ m ++ [m] := by rw [pl, if_neg hna]
        rw [ep, List.length_append, List.length_singleton, Nat.pow_succ]
        omega
      · unfold lmm
        have t1 : (x + 2 ^ (pl σ m).length).testBit (pl σ m).length = true := by
          rw [← or_add h1, or_tb]; simp
        rw [if_neg hna, if_pos t1, lmm_cg (y := x) m (fun p hp => by rw [← or_add h1, or_tb]; simp; omega), or_add (lmm_lt m), h2]
        simp at e
        omega
    · have hb2 : o.testBit m = false := by simpa using hb
      rw [hb2] at e
      simp at e
      unfold pl lmm
      by_cases hna : (σ 18 0).testBit m = true
      · rw [if_pos hna]
        exact ⟨x, h1, by rw [if_pos hna, h2, ← e]⟩
      · rw [if_neg hna]
        refine ⟨x, ?_, ?_⟩
        · rw [List.length_append, List.length_singleton, Nat.pow_succ]; omega
        · rw [if_neg hna, if_neg (by rw [Nat.testBit_lt_two_pow h1]; decide), h2, ← e]
abbrev LM (σ : ST) (x : Nat) : Nat := lmm σ x (σ 11 0)
theorem ewb_x (w : σ 11 0 ≤ 12) (h8 : (PL σ).length ≤ 8) (hx : x < 2 ^ (PL σ).length) : ewb σ (LM σ x) = true ↔ EWk σ (PL σ) 0 ((2 ^ (PL σ).length - 1) &&& (x ^^^ 4294967295)) (fun _ => 0) := by
  have e1 := Ws_ne (σ := σ) (sl (prs σ &&& (LM σ x ^^^ 4294967295)) (σ 11 0)) [] (fun _ => 0) (sl_nd _) (fun l _ => by simp) (fun r => AGL_0 (fun l hl => by simp at hl))
  have e2 : EWk σ (PL σ) 0 ((2 ^ (PL σ).length - 1) &&& (x ^^^ 4294967295)) (fun _ => 0) ↔ EWp σ (fun l => l ∈ ([] : List Nat)) (fun l => l ∈ sl (prs σ &&& (LM σ x ^^^ 4294967295)) (σ 11 0)) (fun _ => 0) := by
    refine EWp_cg (fun l => ?_) (fun l => ?_)
    · constructor
      · intro h
        obtain ⟨q, q1, _⟩ := inA_k.mp h
        omega
      · intro h; simp at h
    · rw [sl_mem]
      have el : LM σ x = lp (PL σ) x (PL σ).length := (lmm_lp _).symm
      constructor
      · rintro ⟨p, _, p2, p3, p4⟩
        obtain ⟨m1, m2⟩ := PL_mem.mp (gD_mem p2)
        rw [← p4] at m1 m2
        refine ⟨m1, ?_⟩
        rw [Nat.testBit_and, Nat.testBit_xor, tb_ff (by omega)] at p3
        rw [Nat.testBit_and, Nat.testBit_xor, tb_ff (by omega), prs_tb m1 w]
        have hn : (LM σ x).testBit l = false := by
          cases hb : (LM σ x).testBit l
          · rfl
          · rw [el] at hb
            obtain ⟨q, q1, q2, q3⟩ := (lp_tb _).mp hb
            have := gD_inj (pl_nd _) p2 q1 (p4.symm.trans q3)
            subst this
            rw [q2] at p3
            simp at p3
        rw [hn]
        simpa using m2
      · rintro ⟨m1, m3⟩
        rw [Nat.testBit_and, Nat.testBit_xor, tb_ff (by omega), prs_tb m1 w] at m3
        simp at m3
        obtain ⟨p, hp, e⟩ := List.getElem_of_mem (PL_mem.mpr ⟨m1, by simp [m3.1]⟩)
        have eg : l = (PL σ).getD p 0 := by
          rw [List.getD_eq_getElem?_getD, List.getElem?_eq_getElem hp]
          exact e.symm
        refine ⟨p, by omega, hp, ?_, eg⟩
        rw [Nat.testBit_and, Nat.testBit_xor, tb_ff (by omega), Nat.testBit_two_pow_sub_one]
        have hn : x.testBit p = false := by
          cases hb : x.testBit p
          · rfl
          · have : (LM σ x).testBit l = true := by rw [el]; exact (lp_tb _).mpr ⟨p, hp, hb, eg⟩
            rw [this] at m3
            simp at m3
        rw [hn]
        simp [hp]
  rw [e2, ← e1]
  unfold ewb
  split <;> simp_all
theorem LM_sub (w : σ 11 0 ≤ 12) : LM σ x &&& (prs σ ^^^ 4294967295) = 0 := by
  have h1 := lmm_lt (σ := σ) (x := x) (σ 11 0)
  have w3 : 2 ^ σ 11 0 ≤ 2 ^ 12 := pow_le w
  refine (sub0 (show LM σ x < 65536 by unfold LM; omega)).mpr (fun e he hb => ?_)
  rw [show LM σ x = lp (PL σ) x (PL σ).length from (lmm_lp _).symm] at hb
  obtain ⟨q, q1, q2, rfl⟩ := (lp_tb _).mp hb
  obtain ⟨m1, m2⟩ := PL_mem.mp (gD_mem q1)
  rw [prs_tb m1 w]
  simpa using m2
theorem LM_pc (w : σ 11 0 ≤ 12) (h8 : (PL σ).length ≤ 8) (hx : x < 2 ^ (PL σ).length) : pcn (LM σ x) 16 = pcn x 16 := by
  have h1 := lmm_lt (σ := σ) (x := x) (σ 11 0)
  have e1 := pcn_up h1 (16 - σ 11 0)
  have e2 := pcn_up hx (16 - (PL σ).length)
  rw [show σ 11 0 + (16 - σ 11 0) = 16 by omega] at e1
  rw [show (PL σ).length + (16 - (PL σ).length) = 16 by omega] at e2
  rw [e1, e2]
  exact lmm_pc _
/-- the first set of places, by count and then by size -/
theorem LO_x (w : σ 11 0 ≤ 12) (h8 : (PL σ).length ≤ 8) (hx : x < 2 ^ (PL σ).length) (h : EWk σ (PL σ) 0 ((2 ^ (PL σ).length - 1) &&& (x ^^^ 4294967295)) (fun _ => 0)) (hm : ∀ y, y < 2 ^ (PL σ).length → EWk σ (PL σ) 0 ((2 ^ (PL σ).length - 1) &&& (y ^^^ 4294967295)) (fun _ => 0) → pcn x 16 < pcn y 16 ∨ (pcn x 16 = pcn y 16 ∧ x ≤ y)) : LM σ x = lfm σ (2 ^ σ 11 0) := by
  refine LO_u (σ := σ) ⟨LM_sub w, (ewb_x w h8 hx).mpr h, fun o ho h1 h2 => ?_⟩ (lfm_LO w) (lmm_lt _) (lfm_lt w)
  have w3 : 2 ^ σ 11 0 ≤ 2 ^ 12 := pow_le w
  obtain ⟨y, hy, rfl⟩ := lmm_ex (σ := σ) (σ 11 0) o ho (fun i hi hb => by
    have := (sub0 (show o < 65536 by omega)).mp h1 i (by omega) hb
    rw [prs_tb hi w] at this
    simpa using this)
  have e1 := LM_pc w h8 hx
  have e2 := LM_pc w h8 hy
  unfold LM at e1 e2
  rw [e1, e2]
  rcases hm y hy ((ewb_x w h8 hy).mp h2) with h3 | ⟨h3, h4⟩
  · exact Or.inl h3
  · exact Or.inr ⟨h3, lmm_mono _ (by rw [Nat.mod_eq_of_lt hx, Nat.mod_eq_of_lt hy]; exact h4)⟩
theorem c_lumpsAt (ch : rdCh g hj σ (PL σ)) (w : σ 11 0 ≤ 12) (h8 : (PL σ).length ≤ 8) (hx : x < 2 ^ (PL σ).length) : cwp X (d + 1) m_Ways_lumpsAt [.ref 19, .int (nI x)] (HP g hj) Q = Q (some (.int (nI (LM σ x)))) (HP g hj) := by
  have e0 := ch.1
  have pw : 2 ^ (PL σ).length ≤ 2 ^ 8 := pow_le h8
  have l16 : ∀ p, p ≤ (PL σ).length → lp (PL σ) x p < 65536 := by
    intro p
    induction p with
    | zero => intro _; simp [lp]
    | succ p ih =>
      intro hp
      have := ih (by omega)
      have m1 := (PL_mem.mp (gD_mem (show p < (PL σ).length by omega))).1
      unfold lp
      split
      · exact Nat.or_lt_two_pow (n := 16) this (Nat.pow_lt_pow_right (by omega) (by omega))
      · exact this
  have loop : ∀ (m p : Nat), p + m = (PL σ).length → wp X (d + 1) m_Ways_lumpsAt 4 [.ref 19, .int (nI x), .int (nI (lp (PL σ) x p)), .int (nI p)] [] (HP g hj) Q = Q (some (.int (nI (LM σ x)))) (HP g hj) := by
    intro m
    induction m with
    | zero =>
      intro p hp
      have : p = (PL σ).length := by omega
      subst this
      rw [s_Ways_lumpsAt_4]
      simp (disch := omega) only [↓s_Ways_lumpsAt_5, ↓s_Ways_lumpsAt_6, ↓s_Ways_lumpsAt_9, ↓s_Ways_lumpsAt_12, ↓s_Ways_lumpsAt_43, ↓s_Ways_lumpsAt_44, nI_leI, nI_ltI, nI_eq, N_z, nI_add, pk_sub, pk_mul, kL_i, kL_r, kL_d, kL_l, kL_k, kL_f, Option.toList_some, Option.toList_none, List.cons_append, List.nil_append, bI_z, N_and, N_or, N_shl, N_shr, Nat.one_mul, Nat.reduceAdd, lg_cmp_eq, L_and, L_or, bI_1, bI_0, if_true, if_false, reduceIte, N_m1x, ite_not, e0, Nat.le_refl]
      rw [show LM σ x = lp (PL σ) x (PL σ).length from (lmm_lp _).symm]
    | succ m ih =>
      intro p hp
      have e1 := (ch.2.1 p (by omega)).1
      have m1 := (PL_mem.mp (gD_mem (show p < (PL σ).length by omega))).1
      have := l16 p (by omega)
      have ih2 := ih (p + 1) (by omega)
      rw [s_Ways_lumpsAt_4]
      simp (disch := omega) only [↓s_Ways_lumpsAt_5, ↓s_Ways_lumpsAt_6, ↓s_Ways_lumpsAt_9, ↓s_Ways_lumpsAt_12, ↓s_Ways_lumpsAt_15, ↓s_Ways_lumpsAt_16, ↓s_Ways_lumpsAt_17, ↓s_Ways_lumpsAt_20, nI_leI, nI_ltI, nI_eq, N_z, nI_add, pk_sub, pk_mul, kL_i, kL_r, kL_d, kL_l, kL_k, kL_f, Option.toList_some, Option.toList_none, List.cons_append, List.nil_append, bI_z, N_and, N_or, N_shl, N_shr, Nat.one_mul, Nat.reduceAdd, lg_cmp_eq, L_and, L_or, bI_1, bI_0, if_true, if_false, reduceIte, N_m1x, ite_not, e0, c_C_hasBit]
      rw [if_neg (by omega)]
      unfold lp at ih2
      by_cases hb : x.testBit p = true
      · rw [if_pos hb] at ih2 ⊢
        simp (disch := omega) only [↓s_Ways_lumpsAt_23, ↓s_Ways_lumpsAt_24, ↓s_Ways_lumpsAt_25, ↓s_Ways_lumpsAt_26, ↓s_Ways_lumpsAt_29, ↓s_Ways_lumpsAt_32, ↓s_Ways_lumpsAt_33, ↓s_Ways_lumpsAt_34, ↓s_Ways_lumpsAt_35, ↓s_Ways_lumpsAt_36, ↓s_Ways_lumpsAt_37, ↓s_Ways_lumpsAt_40, nI_leI, nI_ltI, nI_eq, N_z, nI_add, pk_sub, pk_mul, kL_i, kL_r, kL_d, kL_l, kL_k, kL_f, Option.toList_some, Option.toList_none, List.cons_append, List.nil_append, bI_z, N_and, N_or, N_shl, N_shr, Nat.one_mul, Nat.reduceAdd, lg_cmp_eq, L_and, L_or, bI_1, bI_0, if_true, if_false, reduceIte, N_m1x, ite_not, e1]
        exact ih2
      · rw [if_neg hb] at ih2 ⊢
        simp (disch := omega) only [↓s_Ways_lumpsAt_37, ↓s_Ways_lumpsAt_40, nI_leI, nI_ltI, nI_eq, N_z, nI_add, pk_sub, pk_mul, kL_i, kL_r, kL_d, kL_l, kL_k, kL_f, Option.toList_some, Option.toList_none, List.cons_append, List.nil_append, bI_z, N_and, N_or, N_shl, N_shr, Nat.one_mul, Nat.reduceAdd, lg_cmp_eq, L_and, L_or, bI_1, bI_0, if_true, if_false, reduceIte, N_m1x, ite_not]
        exact ih2
  simp only [e_Ways_lumpsAt, ↓s_Ways_lumpsAt_0, ↓s_Ways_lumpsAt_1, ↓s_Ways_lumpsAt_2, ↓s_Ways_lumpsAt_3, kL_i]
  exact loop (PL σ).length 0 (by omega)
end CLEFT
