/-! the model's agree -/
theorem pcn_all {a : Nat} : ∀ n, pcn a n = n → ∀ b, b < n → a.testBit b = true
  | 0, _, b, hb => by omega
  | n + 1, h, b, hb => by
    have h1 := pcn_le a n
    have h2 : a / 2 ^ n % 2 < 2 := Nat.mod_lt _ (by omega)
    unfold pcn at h
    by_cases e : b = n
    · subst e; rw [← tb_dm]; omega
    · exact pcn_all n (by omega) b (by omega)
theorem pcn_ex {a : Nat} : ∀ n, pcn a n < n → ∃ b, b < n ∧ ¬ a.testBit b = true
  | 0, h => by omega
  | n + 1, h => by
    by_cases e : a.testBit n = true
    · have h2 : a / 2 ^ n % 2 = 1 := by rw [tb_dm]; exact e
      unfold pcn at h
      obtain ⟨b, h3, h4⟩ := pcn_ex (a := a) n (by omega)
      exact ⟨b, by omega, h4⟩
    · exact ⟨n, by omega, e⟩
theorem dm_tb (a k : Nat) : a / 2 ^ k % 2 = if a.testBit k = true then 1 else 0 := by
  have h1 := tb_dm a k
  by_cases h : a.testBit k = true
  · rw [if_pos h, h1]; exact h
  · rw [if_neg h]
    have h2 : ¬ a / 2 ^ k % 2 = 1 := by rw [h1]; exact h
    omega
theorem pcn_cg {a b : Nat} : ∀ n, (∀ i, i < n → a.testBit i = b.testBit i) → pcn a n = pcn b n
  | 0, _ => rfl
  | n + 1, h => by
    unfold pcn
    rw [pcn_cg n (fun i hi => h i (by omega)), dm_tb, dm_tb, h n (by omega)]
theorem or_tb (a k i : Nat) : (a ||| 2 ^ k).testBit i = (a.testBit i || decide (k = i)) := by rw [Nat.testBit_or, Nat.testBit_two_pow]
theorem pcn_or {a k : Nat} (hk : ¬ a.testBit k = true) : ∀ n, k < n → pcn (a ||| 2 ^ k) n = pcn a n + 1
  | 0, h => by omega
  | n + 1, h => by
    unfold pcn
    rw [dm_tb, dm_tb, or_tb]
    by_cases e : k = n
    · subst e
      rw [pcn_cg k (b := a) (fun i hi => by rw [or_tb]; simp [show k ≠ i by omega])]
      simp [hk]
    · rw [pcn_or hk n (by omega)]
      simp [e]
      omega
/-- lumps of the first places that are led to a ring -/
def mlr (σ : ST) (Ls : List Nat) (j : Nat → Nat) (R : Nat) : Nat → List Nat
  | 0 => []
  | k + 1 => if oR σ (Ls.getD k 0) (j (Ls.getD k 0)) = R then mlr σ Ls j R k ++ [Ls.getD k 0] else mlr σ Ls j R k
theorem mlr_len (σ : ST) (Ls : List Nat) (j : Nat → Nat) (R : Nat) : ∀ k, (mlr σ Ls j R k).length ≤ k
  | 0 => Nat.le_refl 0
  | k + 1 => by
    have := mlr_len σ Ls j R k
    unfold mlr
    split
    · rw [List.length_append]; simp; omega
    · omega
theorem mlr_mem {σ : ST} {Ls : List Nat} {j : Nat → Nat} {R l : Nat} : ∀ k, l ∈ mlr σ Ls j R k ↔ ∃ p, p < k ∧ l = Ls.getD p 0 ∧ oR σ l (j l) = R
  | 0 => by simp [mlr]
  | k + 1 => by
    have ih := mlr_mem (σ := σ) (Ls := Ls) (j := j) (R := R) (l := l) k
    unfold mlr
    by_cases h : oR σ (Ls.getD k 0) (j (Ls.getD k 0)) = R
    · rw [if_pos h, List.mem_append, ih]
      constructor
      · rintro (⟨p, h1, h2, h3⟩ | h1)
        · exact ⟨p, by omega, h2, h3⟩
        · simp only [List.mem_singleton] at h1
          subst h1
          exact ⟨k, by omega, rfl, h⟩
      · rintro ⟨p, h1, h2, h3⟩
        by_cases e : p = k
        · subst e; exact Or.inr (by simp [h2])
        · exact Or.inl ⟨p, by omega, h2, h3⟩
    · rw [if_neg h, ih]
      constructor
      · rintro ⟨p, h1, h2, h3⟩
        exact ⟨p, by omega, h2, h3⟩
      · rintro ⟨p, h1, h2, h3⟩
        by_cases e : p = k
        · subst e; rw [h2] at h3; exact absurd h3 h
        · exact ⟨p, by omega, h2, h3⟩
theorem gD_mem {Ls : List Nat} {p : Nat} (h : p < Ls.length) : Ls.getD p 0 ∈ Ls := by
  rw [List.getD_eq_getElem?_getD, List.getElem?_eq_getElem h]
  exact List.getElem_mem h
theorem gD_inj {Ls : List Nat} (hn : Ls.Nodup) {p q : Nat} (hp : p < Ls.length) (hq : q < Ls.length) (e : Ls.getD p 0 = Ls.getD q 0) : p = q := by
  rw [List.getD_eq_getElem?_getD, List.getElem?_eq_getElem hp, List.getD_eq_getElem?_getD, List.getElem?_eq_getElem hq] at e
  have hp2 := List.pairwise_iff_getElem.mp hn
  rcases Nat.lt_trichotomy p q with h | h | h
  · exact absurd e (hp2 p q hp hq h)
  · exact h
  · exact absurd e.symm (hp2 q p hq hp h)
theorem mlr_nd {σ : ST} {Ls : List Nat} {j : Nat → Nat} {R : Nat} (hn : Ls.Nodup) : ∀ k, k ≤ Ls.length → (mlr σ Ls j R k).Nodup
  | 0, _ => by simp [mlr]
  | k + 1, hk => by
    have ih := mlr_nd (σ := σ) (j := j) (R := R) hn k (by omega)
    unfold mlr
    split
    · rw [List.nodup_append]
      refine ⟨ih, by simp, ?_⟩
      intro a ha b hb
      simp only [List.mem_singleton] at hb
      subst hb
      rintro rfl
      obtain ⟨p, h1, h2, h3⟩ := (mlr_mem k).mp ha
      have := gD_inj hn (by omega) (by omega) h2
      omega
    · exact ih
/-- the order and what is chosen, as the cells hold it -/
def AP (σ : ST) (g : Nat → Nat → Int32) (hj : Nat → Nat → Int64) (Ls : List Nat) (j : Nat → Nat) (u : Nat) : Prop :=
  M0 σ g hj ∧ rdOp g hj σ ∧ (∀ k, k < Ls.length → g 73 k = nI (Ls.getD k 0)) ∧ (∀ k, k ≤ u → g 72 (Ls.getD k 0) = nI (24 * Ls.getD k 0 + j (Ls.getD k 0)) ∧ j (Ls.getD k 0) < on σ (Ls.getD k 0) 6) ∧ Ls.Nodup ∧ (∀ l, l ∈ Ls → l < σ 11 0) ∧ u < Ls.length ∧ Ls.length ≤ 12
theorem AP_cg {σ : ST} {g g2 : Nat → Nat → Int32} {hj : Nat → Nat → Int64} {Ls : List Nat} {j : Nat → Nat} {u : Nat} (h : AP σ g hj Ls j u) (e : ∀ k, k ≤ 73 → g2 k = g k) : AP σ g2 hj Ls j u := by
  obtain ⟨h1, h2, h3, h4, h5⟩ := h
  have h51 := e 51 (by omega)
  refine ⟨M0_cg h1 (by rw [h51]) (by rw [h51]) (by rw [h51]) (by rw [h51]) (fun k _ _ => e k (by omega)), ?_, ?_, ?_, h5⟩
  · unfold rdOp at h2 ⊢
    rw [e 66 (by omega), e 67 (by omega), e 68 (by omega), e 69 (by omega), e 70 (by omega)]
    exact h2
  · rw [e 73 (by omega)]; exact h3
  · rw [e 72 (by omega)]; exact h4
section MAG
variable {X : AX} {d : Nat} {Q : Option Value → AH → Prop} {g0 : Nat → Nat → Int32} {hj : Nat → Nat → Int64} {σ : ST} {Ls : List Nat} {j : Nat → Nat} {u R : Nat}
theorem AP_rd {g : Nat → Nat → Int32} (a : AP σ g hj Ls j u) {k : Nat} (hk : k ≤ u) : Ls.getD k 0 < σ 11 0 ∧ 24 * Ls.getD k 0 + j (Ls.getD k 0) < 288 ∧ g 73 k = nI (Ls.getD k 0) ∧ g 72 (Ls.getD k 0) = nI (24 * Ls.getD k 0 + j (Ls.getD k 0)) ∧ g 67 (24 * Ls.getD k 0 + j (Ls.getD k 0)) = nI (oR σ (Ls.getD k 0) (j (Ls.getD k 0))) ∧ g 69 (24 * Ls.getD k 0 + j (Ls.getD k 0)) = nI (oC σ (Ls.getD k 0) (j (Ls.getD k 0))) ∧ g 70 (24 * Ls.getD k 0 + j (Ls.getD k 0)) = nI (oW σ (Ls.getD k 0) (j (Ls.getD k 0))) ∧ oR σ (Ls.getD k 0) (j (Ls.getD k 0)) < 6 ∧ oR σ (Ls.getD k 0) (j (Ls.getD k 0)) < σ 2 0 := by
  obtain ⟨h1, h2, h3, h4, h5, h6, h7, h8⟩ := a
  have w := h1.1.2.2.2.1.1
  have m := h6 _ (gD_mem (show k < Ls.length by omega))
  obtain ⟨c1, c2⟩ := h4 k hk
  have c3 := on_le (σ := σ) (l := Ls.getD k 0) 6
  obtain ⟨r1, r2, r3, r4⟩ := (h2.1 _ m).2 _ c2
  obtain ⟨o1, o2, _⟩ := op_ok c2
  exact ⟨m, by omega, h3 k (by omega), c1, r1, r3, r4, o1, o2⟩
theorem l_M_agreeA (hR : R = oR σ (Ls.getD u 0) (j (Ls.getD u 0))) (a0 : AP σ g0 hj Ls j u) {v5 v6 v7 v8 : Value} (Kc : ∀ g v4, (∀ k, k ≤ 73 ∨ 77 ≤ k → g k = g0 k) → (∀ i, i < (mlr σ Ls j R (u + 1)).length → g 74 i = nI ((mlr σ Ls j R (u + 1)).getD i 0)) → wp X (d + 1) m_M_agree 71 [.ref 51, .int (nI u), .int (nI R), .int (nI (mlr σ Ls j R (u + 1)).length), v4, v5, v6, v7, v8] [] (HP g hj) Q) :
    ∀ (m k : Nat) (g : Nat → Nat → Int32), k + m = u + 1 → (∀ k, k ≤ 73 ∨ 77 ≤ k → g k = g0 k) → (∀ i, i < (mlr σ Ls j R k).length → g 74 i = nI ((mlr σ Ls j R k).getD i 0)) →
    wp X (d + 1) m_M_agree 22 [.ref 51, .int (nI u), .int (nI R), .int (nI (mlr σ Ls j R k).length), .int (nI k), v5, v6, v7, v8] [] (HP g hj) Q
  | 0, k, g, hk, e1, e2 => by
    have hu := a0.2.2.2.2.2.2
    have : k = u + 1 := by omega
    subst this
    rw [s_M_agree_22]
    simp (disch := omega) only [↓s_M_agree_24, ↓s_M_agree_25, nI_leI, nI_ltI, nI_eq, N_z, nI_add, pk_sub, pk_mul, kL_i, kL_r, kL_d, kL_l, kL_k, kL_f, Option.toList_some, Option.toList_none, List.cons_append, List.nil_append, bI_z, N_and, N_or, N_shl, N_shr, Nat.one_mul, Nat.reduceAdd, lg_cmp_eq, L_and, L_or, bI_1, bI_0, if_true, if_false, reduceIte, N_m1x, ite_not]
    rw [if_pos (by omega)]
    exact Kc g _ e1 e2
  | m + 1, k, g, hk, e1, e2 => by
    have hu := a0.2.2.2.2.2.2
    have a := AP_cg a0 (fun k hk => e1 k (by omega))
    obtain ⟨r1, r2, r3, r4, r5, r6, r7, r8, r9⟩ := AP_rd a (show k ≤ u by omega)
    have w := a.1.1.2.2.2.1.1
    obtain ⟨_, _, _, _, _, _, _, rr, _⟩ := AP_rd a (Nat.le_refl u)
    rw [← hR] at rr
    have l1 := mlr_len σ Ls j R k
    have e : mlr σ Ls j R (k + 1) = if oR σ (Ls.getD k 0) (j (Ls.getD k 0)) = R then mlr σ Ls j R k ++ [Ls.getD k 0] else mlr σ Ls j R k := rfl
    rw [s_M_agree_22]
    simp (disch := omega) only [↓s_M_agree_24, ↓s_M_agree_25, ↓s_M_agree_28, ↓s_M_agree_29, ↓s_M_agree_32, ↓s_M_agree_33, ↓s_M_agree_36, ↓s_M_agree_37, ↓s_M_agree_40, ↓s_M_agree_42, ↓s_M_agree_43, ↓s_M_agree_44, ↓s_M_agree_45, ↓s_M_agree_46, ↓s_M_agree_49, ↓s_M_agree_50, ↓s_M_agree_53, ↓s_M_agree_54, ↓s_M_agree_55, ↓s_M_agree_58, ↓s_M_agree_60, ↓s_M_agree_61, ↓s_M_agree_62, ↓s_M_agree_65, ↓s_M_agree_68, nI_leI, nI_ltI, nI_eq, N_z, nI_add, pk_sub, pk_mul, kL_i, kL_r, kL_d, kL_l, kL_k, kL_f, Option.toList_some, Option.toList_none, List.cons_append, List.nil_append, bI_z, N_and, N_or, N_shl, N_shr, Nat.one_mul, Nat.reduceAdd, lg_cmp_eq, L_and, L_or, bI_1, bI_0, if_true, if_false, reduceIte, N_m1x, ite_not, r3, r4, r5]
    rw [if_neg (by omega)]
    by_cases h1 : oR σ (Ls.getD k 0) (j (Ls.getD k 0)) = R
    · rw [if_pos h1]
      rw [if_pos h1] at e
      have el : (mlr σ Ls j R k).length + 1 = (mlr σ Ls j R (k + 1)).length := by rw [e, List.length_append]; rfl
      rw [el]
      refine l_M_agreeA hR a0 Kc m (k + 1) _ (by omega) (fun x hx => ?_) (fun i hi => ?_)
      · simp (disch := omega) only [u2_r]; exact e1 x hx
      · rw [← el] at hi
        rw [e]
        by_cases e3 : i = (mlr σ Ls j R k).length
        · subst e3
          rw [u2_s, gD_r]
        · rw [u2_m _ _ _ _ e3, gD_l (by omega)]
          exact e2 i (by omega)
    · rw [if_neg h1]
      rw [if_neg h1] at e
      rw [← e] at e2 ⊢
      exact l_M_agreeA hR a0 Kc m (k + 1) g (by omega) e1 e2
/-- members, as the cells hold them -/
def MP (σ : ST) (g : Nat → Nat → Int32) (hj : Nat → Nat → Int64) (mm j : Nat → Nat) (R n : Nat) : Prop :=
  n ≤ 12 ∧ R < σ 2 0 ∧ R < 6 ∧ hj 71 R = lN (dys σ R) ∧ ∀ b, b < n → mm b < 12 ∧ mm b < σ 11 0 ∧ 24 * mm b + j (mm b) < 288 ∧ g 74 b = nI (mm b) ∧ g 72 (mm b) = nI (24 * mm b + j (mm b)) ∧ g 69 (24 * mm b + j (mm b)) = nI (oC σ (mm b) (j (mm b))) ∧ g 70 (24 * mm b + j (mm b)) = nI (oW σ (mm b) (j (mm b))) ∧ g 62 (mm b) = nI (σ 14 (mm b)) ∧ g 63 (mm b) = nI (σ 15 (mm b)) ∧ oR σ (mm b) (j (mm b)) = R
theorem MP_cg {g g2 : Nat → Nat → Int32} {mm : Nat → Nat} {n : Nat} (h : MP σ g hj mm j R n) (e : ∀ k, k ≤ 74 → g2 k = g k) : MP σ g2 hj mm j R n := by
  unfold MP at h ⊢
  rw [e 74 (by omega), e 72 (by omega), e 69 (by omega), e 70 (by omega), e 62 (by omega), e 63 (by omega)]
  exact h
def bfb (σ : ST) (mm j : Nat → Nat) (b a : Nat) : Bool := decide (a ≠ b ∧ oW σ (mm a) (j (mm a)) &&& oC σ (mm b) (j (mm b)) ≠ 0)
variable {mm : Nat → Nat} {n : Nat}
theorem oW_lt {l i : Nat} (w : WF σ) (hl : l < σ 11 0) : oW σ l i < 65536 := wh_lt w hl _
theorem oC_lt {l i : Nat} : oC σ l i < 65536 := ch_lt _ _ _
theorem l_M_agreeC (w : WF σ) {b : Nat} (hb : b < n) {v7 v8 : Value} (Kc : ∀ g v6, MP σ g hj mm j R n → (∀ k, k ≤ 74 ∨ 76 ≤ k → g k = g0 k) → (∀ x, x ≠ b → g 75 x = g0 75 x) → g 75 b = nI (bts (bfb σ mm j b) n) → wp X (d + 1) m_M_agree 178 [.ref 51, .int (nI u), .int (nI R), .int (nI n), .int (nI b), .int (nI n), v6, v7, v8] [] (HP g hj) Q) :
    ∀ (m a : Nat) (g : Nat → Nat → Int32) (v6 : Value), a + m = n → MP σ g hj mm j R n → (∀ k, k ≤ 74 ∨ 76 ≤ k → g k = g0 k) → (∀ x, x ≠ b → g 75 x = g0 75 x) → g 75 b = nI (bts (bfb σ mm j b) a) →
    wp X (d + 1) m_M_agree 91 [.ref 51, .int (nI u), .int (nI R), .int (nI n), .int (nI b), .int (nI a), v6, v7, v8] [] (HP g hj) Q
  | 0, a, g, v6, ha, p, e1, e2, e3 => by
    have hn := p.1
    have : a = n := by omega
    subst this
    rw [s_M_agree_91]
    simp (disch := omega) only [↓s_M_agree_93, ↓s_M_agree_94, nI_leI, nI_ltI, nI_eq, N_z, nI_add, pk_sub, pk_mul, kL_i, kL_r, kL_d, kL_l, kL_k, kL_f, Option.toList_some, Option.toList_none, List.cons_append, List.nil_append, bI_z, N_and, N_or, N_shl, N_shr, Nat.one_mul, Nat.reduceAdd, lg_cmp_eq, L_and, L_or, bI_1, bI_0, if_true, if_false, reduceIte, N_m1x, ite_not, Nat.le_refl]
    exact Kc g v6 p e1 e2 e3
  | m + 1, a, g, v6, ha, p, e1, e2, e3 => by
    have hn := p.1
    obtain ⟨x1, x2, x3, x4, x5, x6, x7, x8⟩ := p.2.2.2.2 a (by omega)
    obtain ⟨y1, y2, y3, y4, y5, y6, y7, y8⟩ := p.2.2.2.2 b hb
    have lw := oW_lt (i := j (mm a)) w x2
    have lw2 : oW σ (mm a) (j (mm a)) &&& oC σ (mm b) (j (mm b)) ≤ oW σ (mm a) (j (mm a)) := Nat.and_le_left
    have e : bts (bfb σ mm j b) (a + 1) = bts (bfb σ mm j b) a ||| (if bfb σ mm j b a = true then 2 ^ a else 0) := rfl
    have T : ∀ v, bfb σ mm j b a = true → wp X (d + 1) m_M_agree 147 [.ref 51, .int (nI u), .int (nI R), .int (nI n), .int (nI b), .int (nI a), v, v7, v8] [.int (nI 1)] (HP g hj) Q := by
      intro v hv
      rw [if_pos hv] at e
      simp (disch := omega) only [↓s_M_agree_147, ↓s_M_agree_149, ↓s_M_agree_150, ↓s_M_agree_153, ↓s_M_agree_155, ↓s_M_agree_156, ↓s_M_agree_157, ↓s_M_agree_159, ↓s_M_agree_162, ↓s_M_agree_163, ↓s_M_agree_165, ↓s_M_agree_166, ↓s_M_agree_169, ↓s_M_agree_170, ↓s_M_agree_171, ↓s_M_agree_172, ↓s_M_agree_175, nI_leI, nI_ltI, nI_eq, N_z, nI_add, pk_sub, pk_mul, kL_i, kL_r, kL_d, kL_l, kL_k, kL_f, Option.toList_some, Option.toList_none, List.cons_append, List.nil_append, bI_z, N_and, N_or, N_shl, N_shr, Nat.one_mul, Nat.reduceAdd, lg_cmp_eq, L_and, L_or, bI_1, bI_0, if_true, if_false, reduceIte, N_m1x, ite_not, Nat.one_ne_zero, Nat.zero_ne_one, eq_self, not_true_eq_false, not_false_eq_true, e3, ← e]
      refine l_M_agreeC w hb Kc m (a + 1) _ _ (by omega) (MP_cg p (fun k hk => by simp (disch := omega) only [u2_r])) (fun k hk => ?_) (fun x hx => ?_) ?_
      · simp (disch := omega) only [u2_r]; exact e1 k hk
      · rw [u2_m _ _ _ _ hx]; exact e2 x hx
      · rw [u2_s]
    have F : ∀ v, ¬ bfb σ mm j b a = true → wp X (d + 1) m_M_agree 147 [.ref 51, .int (nI u), .int (nI R), .int (nI n), .int (nI b), .int (nI a), v, v7, v8] [.int (nI 0)] (HP g hj) Q := by
      intro v hv
      rw [if_neg hv] at e
      simp (disch := omega) only [↓s_M_agree_147, ↓s_M_agree_149, ↓s_M_agree_150, ↓s_M_agree_153, ↓s_M_agree_155, ↓s_M_agree_156, ↓s_M_agree_157, ↓s_M_agree_159, ↓s_M_agree_162, ↓s_M_agree_163, ↓s_M_agree_165, ↓s_M_agree_166, ↓s_M_agree_169, ↓s_M_agree_170, ↓s_M_agree_171, ↓s_M_agree_172, ↓s_M_agree_175, nI_leI, nI_ltI, nI_eq, N_z, nI_add, pk_sub, pk_mul, kL_i, kL_r, kL_d, kL_l, kL_k, kL_f, Option.toList_some, Option.toList_none, List.cons_append, List.nil_append, bI_z, N_and, N_or, N_shl, N_shr, Nat.one_mul, Nat.reduceAdd, lg_cmp_eq, L_and, L_or, bI_1, bI_0, if_true, if_false, reduceIte, N_m1x, ite_not, Nat.one_ne_zero, Nat.zero_ne_one, eq_self, not_true_eq_false, not_false_eq_true, e3, ← e]
      refine l_M_agreeC w hb Kc m (a + 1) _ _ (by omega) (MP_cg p (fun k hk => by simp (disch := omega) only [u2_r])) (fun k hk => ?_) (fun x hx => ?_) ?_
      · simp (disch := omega) only [u2_r]; exact e1 k hk
      · rw [u2_m _ _ _ _ hx]; exact e2 x hx
      · rw [u2_s]
    rw [s_M_agree_91]
    simp (disch := omega) only [↓s_M_agree_93, ↓s_M_agree_94, ↓s_M_agree_97, ↓s_M_agree_99, ↓s_M_agree_101, ↓s_M_agree_104, ↓s_M_agree_105, ↓s_M_agree_108, ↓s_M_agree_109, ↓s_M_agree_112, ↓s_M_agree_113, ↓s_M_agree_116, ↓s_M_agree_118, ↓s_M_agree_119, ↓s_M_agree_120, ↓s_M_agree_121, ↓s_M_agree_122, ↓s_M_agree_125, ↓s_M_agree_126, ↓s_M_agree_129, ↓s_M_agree_130, ↓s_M_agree_133, ↓s_M_agree_135, ↓s_M_agree_136, ↓s_M_agree_137, ↓s_M_agree_138, ↓s_M_agree_139, ↓s_M_agree_142, ↓s_M_agree_143, ↓s_M_agree_146, nI_leI, nI_ltI, nI_eq, N_z, nI_add, pk_sub, pk_mul, kL_i, kL_r, kL_d, kL_l, kL_k, kL_f, Option.toList_some, Option.toList_none, List.cons_append, List.nil_append, bI_z, N_and, N_or, N_shl, N_shr, Nat.one_mul, Nat.reduceAdd, lg_cmp_eq, L_and, L_or, bI_1, bI_0, if_true, if_false, reduceIte, N_m1x, ite_not, x4, x5, x7, y4, y5, y6]
    rw [if_neg (by omega)]
    by_cases h1 : a = b
    · rw [if_pos h1]
      exact F _ (by unfold bfb; simp [h1])
    · rw [if_neg h1]
      by_cases h2 : oW σ (mm a) (j (mm a)) &&& oC σ (mm b) (j (mm b)) = 0
      · rw [if_pos h2]
        exact F _ (by unfold bfb; simp [h2])
      · rw [if_neg h2]
        exact T _ (by unfold bfb; simp [h1, h2])
theorem l_M_agreeB (w : WF σ) {v7 v8 : Value} (Kc : ∀ g v5 v6, MP σ g hj mm j R n → (∀ k, k ≤ 74 ∨ 76 ≤ k → g k = g0 k) → (∀ x, x < n → g 75 x = nI (bts (bfb σ mm j x) n)) → wp X (d + 1) m_M_agree 184 [.ref 51, .int (nI u), .int (nI R), .int (nI n), .int (nI n), v5, v6, v7, v8] [] (HP g hj) Q) :
    ∀ (m b : Nat) (g : Nat → Nat → Int32) (v5 v6 : Value), b + m = n → MP σ g hj mm j R n → (∀ k, k ≤ 74 ∨ 76 ≤ k → g k = g0 k) → (∀ x, x < b → g 75 x = nI (bts (bfb σ mm j x) n)) →
    wp X (d + 1) m_M_agree 74 [.ref 51, .int (nI u), .int (nI R), .int (nI n), .int (nI b), v5, v6, v7, v8] [] (HP g hj) Q
  | 0, b, g, v5, v6, hb, p, e1, e2 => by
    have hn := p.1
    have : b = n := by omega
    subst this
    rw [s_M_agree_74]
    simp (disch := omega) only [↓s_M_agree_76, ↓s_M_agree_77, nI_leI, nI_ltI, nI_eq, N_z, nI_add, pk_sub, pk_mul, kL_i, kL_r, kL_d, kL_l, kL_k, kL_f, Option.toList_some, Option.toList_none, List.cons_append, List.nil_append, bI_z, N_and, N_or, N_shl, N_shr, Nat.one_mul, Nat.reduceAdd, lg_cmp_eq, L_and, L_or, bI_1, bI_0, if_true, if_false, reduceIte, N_m1x, ite_not, Nat.le_refl]
    exact Kc g v5 v6 p e1 e2
  | m + 1, b, g, v5, v6, hb, p, e1, e2 => by
    have hn := p.1
    rw [s_M_agree_74]
    simp (disch := omega) only [↓s_M_agree_76, ↓s_M_agree_77, ↓s_M_agree_80, ↓s_M_agree_81, ↓s_M_agree_84, ↓s_M_agree_86, ↓s_M_agree_87, ↓s_M_agree_88, ↓s_M_agree_89, nI_leI, nI_ltI, nI_eq, N_z, nI_add, pk_sub, pk_mul, kL_i, kL_r, kL_d, kL_l, kL_k, kL_f, Option.toList_some, Option.toList_none, List.cons_append, List.nil_append, bI_z, N_and, N_or, N_shl, N_shr, Nat.one_mul, Nat.reduceAdd, lg_cmp_eq, L_and, L_or, bI_1, bI_0, if_true, if_false, reduceIte, N_m1x, ite_not]
    rw [if_neg (by omega)]
    refine l_M_agreeC (g0 := up2 g 75 b (nI 0)) w (show b < n by omega) (fun g' v6' p' f1 f2 f3 => ?_) n 0 _ _ (by omega) (MP_cg p (fun k hk => by simp (disch := omega) only [u2_r])) (fun _ _ => rfl) (fun _ _ => rfl) ?_
    · simp (disch := omega) only [↓s_M_agree_178, ↓s_M_agree_181, nI_leI, nI_ltI, nI_eq, N_z, nI_add, pk_sub, pk_mul, kL_i, kL_r, kL_d, kL_l, kL_k, kL_f, Option.toList_some, Option.toList_none, List.cons_append, List.nil_append, bI_z, N_and, N_or, N_shl, N_shr, Nat.one_mul, Nat.reduceAdd, lg_cmp_eq, L_and, L_or, bI_1, bI_0, if_true, if_false, reduceIte, N_m1x, ite_not]
      refine l_M_agreeB w Kc m (b + 1) g' _ _ (by omega) p' (fun k hk => ?_) (fun x hx => ?_)
      · rw [f1 k hk]; simp (disch := omega) only [u2_r]; exact e1 k hk
      · by_cases e : x = b
        · subst e; exact f3
        · rw [f2 x e, u2_m _ _ _ _ e]; exact e2 x (by omega)
    · rw [u2_s]; rfl
theorem l_M_agreeE {Dn : Nat} {g : Nat → Nat → Int32} {v8 : Value} {v5 : Int32} (hn : n ≤ 12) (hD : Dn < 65536) (hB : ∀ x, x < n → g 75 x = nI (bts (bfb σ mm j x) n))
    (K1 : ∀ b, b < n → ¬ Dn.testBit b = true → (∀ a, a < n → bfb σ mm j b a = true → Dn.testBit a = true) → wp X (d + 1) m_M_agree 261 [.ref 51, .int (nI u), .int (nI R), .int (nI n), .int (nI Dn), .int v5, .int (nI b), .int (nI (b + 1)), v8] [] (HP g hj) Q)
    (K0 : (∀ b, b < n → ¬ Dn.testBit b = true → ∃ a, a < n ∧ bfb σ mm j b a = true ∧ ¬ Dn.testBit a = true) → Q (some (.int (nI 0))) (HP g hj)) :
    ∀ (m i : Nat), i + m = n → (∀ b, b < i → ¬ Dn.testBit b = true → ∃ a, a < n ∧ bfb σ mm j b a = true ∧ ¬ Dn.testBit a = true) →
    wp X (d + 1) m_M_agree 202 [.ref 51, .int (nI u), .int (nI R), .int (nI n), .int (nI Dn), .int v5, .int (-1), .int (nI i), v8] [] (HP g hj) Q
  | 0, i, hi, e => by
    have : i = n := by omega
    subst this
    rw [s_M_agree_202]
    simp (disch := omega) only [↓s_M_agree_204, ↓s_M_agree_205, ↓s_M_agree_208, ↓s_M_agree_210, ↓s_M_agree_211, ↓s_M_agree_253, ↓s_M_agree_255, ↓s_M_agree_256, ↓s_M_agree_259, ↓s_M_agree_260_0, ↓s_M_agree_260_1, ↓s_M_agree_260_b, nI_leI, nI_ltI, nI_eq, N_z, nI_add, pk_sub, pk_mul, kL_i, kL_r, kL_d, kL_l, kL_k, kL_f, Option.toList_some, Option.toList_none, List.cons_append, List.nil_append, bI_z, N_and, N_or, N_shl, N_shr, Nat.one_mul, Nat.reduceAdd, lg_cmp_eq, L_and, L_or, bI_1, bI_0, if_true, if_false, reduceIte, N_m1x, ite_not, Nat.one_ne_zero, Nat.zero_ne_one, eq_self, not_true_eq_false, not_false_eq_true, Nat.le_refl]
    exact K0 e
  | m + 1, i, hi, e => by
    have e1 := hB i (by omega)
    have lb := bts_16 (bfb σ mm j i) (show n ≤ 16 by omega)
    have lb2 : bts (bfb σ mm j i) n &&& (Dn ^^^ 4294967295) ≤ bts (bfb σ mm j i) n := Nat.and_le_left
    have step : ∀ v, (¬ Dn.testBit i = true → ∃ a, a < n ∧ bfb σ mm j i a = true ∧ ¬ Dn.testBit a = true) → wp X (d + 1) m_M_agree 245 [.ref 51, .int (nI u), .int (nI R), .int (nI n), .int (nI Dn), .int v5, v, .int (nI i), v8] [.int (-1)] (HP g hj) Q := by
      intro v hf
      simp (disch := omega) only [↓s_M_agree_245, ↓s_M_agree_247, ↓s_M_agree_250, nI_leI, nI_ltI, nI_eq, N_z, nI_add, pk_sub, pk_mul, kL_i, kL_r, kL_d, kL_l, kL_k, kL_f, Option.toList_some, Option.toList_none, List.cons_append, List.nil_append, bI_z, N_and, N_or, N_shl, N_shr, Nat.one_mul, Nat.reduceAdd, lg_cmp_eq, L_and, L_or, bI_1, bI_0, if_true, if_false, reduceIte, N_m1x, ite_not]
      refine l_M_agreeE hn hD hB K1 K0 m (i + 1) (by omega) (fun b hb hd => ?_)
      by_cases e2 : b = i
      · subst e2; exact hf hd
      · exact e b (by omega) hd
    rw [s_M_agree_202]
    simp (disch := omega) only [↓s_M_agree_204, ↓s_M_agree_205, ↓s_M_agree_208, ↓s_M_agree_210, ↓s_M_agree_211, ↓s_M_agree_214, ↓s_M_agree_216, ↓s_M_agree_218, ↓s_M_agree_221, ↓s_M_agree_224, ↓s_M_agree_225, ↓s_M_agree_228, ↓s_M_agree_230, ↓s_M_agree_231, ↓s_M_agree_233, ↓s_M_agree_234, ↓s_M_agree_235, ↓s_M_agree_236, ↓s_M_agree_239, ↓s_M_agree_241, ↓s_M_agree_244, nI_leI, nI_ltI, nI_eq, N_z, nI_add, pk_sub, pk_mul, kL_i, kL_r, kL_d, kL_l, kL_k, kL_f, Option.toList_some, Option.toList_none, List.cons_append, List.nil_append, bI_z, N_and, N_or, N_shl, N_shr, Nat.one_mul, Nat.reduceAdd, lg_cmp_eq, L_and, L_or, bI_1, bI_0, if_true, if_false, reduceIte, N_m1x, ite_not, Nat.one_ne_zero, Nat.zero_ne_one, eq_self, not_true_eq_false, not_false_eq_true, e1, c_M_has]
    rw [if_neg (by omega)]
    by_cases h1 : Dn.testBit i = true
    · rw [if_pos h1]
      exact step _ (fun z => absurd h1 z)
    rw [if_neg h1]
    by_cases h2 : bts (bfb σ mm j i) n &&& (Dn ^^^ 4294967295) = 0
    · rw [if_pos h2]
      have hs := (sub0 lb).mp h2
      simp (disch := omega) only [↓s_M_agree_245, ↓s_M_agree_247, ↓s_M_agree_250, nI_leI, nI_ltI, nI_eq, N_z, nI_add, pk_sub, pk_mul, kL_i, kL_r, kL_d, kL_l, kL_k, kL_f, Option.toList_some, Option.toList_none, List.cons_append, List.nil_append, bI_z, N_and, N_or, N_shl, N_shr, Nat.one_mul, Nat.reduceAdd, lg_cmp_eq, L_and, L_or, bI_1, bI_0, if_true, if_false, reduceIte, N_m1x, ite_not]
      rw [s_M_agree_202]
      by_cases h3 : n ≤ i + 1
      · simp (disch := omega) only [↓s_M_agree_204, ↓s_M_agree_205, nI_leI, nI_ltI, nI_eq, N_z, nI_add, pk_sub, pk_mul, kL_i, kL_r, kL_d, kL_l, kL_k, kL_f, Option.toList_some, Option.toList_none, List.cons_append, List.nil_append, bI_z, N_and, N_or, N_shl, N_shr, Nat.one_mul, Nat.reduceAdd, lg_cmp_eq, L_and, L_or, bI_1, bI_0, if_true, if_false, reduceIte, N_m1x, ite_not, h3]
        simp (disch := omega) only [↓s_M_agree_253, ↓s_M_agree_255, ↓s_M_agree_256, nI_ne1, ite_not, if_false]
        refine K1 i (by omega) h1 (fun a ha hab => ?_)
        exact hs a (by omega) (by rw [bts_tb]; simp [ha, hab])
      · simp (disch := omega) only [↓s_M_agree_204, ↓s_M_agree_205, ↓s_M_agree_208, ↓s_M_agree_210, ↓s_M_agree_211, nI_leI, nI_ltI, nI_eq, N_z, nI_add, pk_sub, pk_mul, kL_i, kL_r, kL_d, kL_l, kL_k, kL_f, Option.toList_some, Option.toList_none, List.cons_append, List.nil_append, bI_z, N_and, N_or, N_shl, N_shr, Nat.one_mul, Nat.reduceAdd, lg_cmp_eq, L_and, L_or, bI_1, bI_0, if_true, if_false, reduceIte, N_m1x, ite_not, h3, nI_ne1]
        simp (disch := omega) only [↓s_M_agree_253, ↓s_M_agree_255, ↓s_M_agree_256, nI_ne1, ite_not, if_false]
        refine K1 i (by omega) h1 (fun a ha hab => ?_)
        exact hs a (by omega) (by rw [bts_tb]; simp [ha, hab])
    · rw [if_neg h2]
      refine step _ (fun _ => ?_)
      by_cases h3 : ∃ a, a < n ∧ bfb σ mm j i a = true ∧ ¬ Dn.testBit a = true
      · exact h3
      · exfalso
        apply h2
        rw [sub0 lb]
        intro a ha hab
        rw [bts_tb] at hab
        simp only [Bool.and_eq_true, decide_eq_true_eq] at hab
        by_cases h4 : Dn.testBit a = true
        · exact h4
        · exact absurd ⟨a, hab.1, hab.2, h4⟩ h3
def mxd (Bb : Nat → Bool) (day : Nat → Nat) (f : Nat) : Nat → Nat
  | 0 => f
  | a + 1 => if (Bb a && decide (mxd Bb day f a < day a)) = true then day a else mxd Bb day f a
theorem mxd_ok (Bb : Nat → Bool) (day : Nat → Nat) (f : Nat) : ∀ n, f ≤ mxd Bb day f n ∧ (∀ a, a < n → Bb a = true → day a ≤ mxd Bb day f n) ∧ ∀ z, f ≤ z → (∀ a, a < n → Bb a = true → day a ≤ z) → mxd Bb day f n ≤ z
  | 0 => ⟨Nat.le_refl _, fun a ha => by omega, fun z hz _ => hz⟩
  | n + 1 => by
    obtain ⟨h1, h2, h3⟩ := mxd_ok Bb day f n
    unfold mxd
    by_cases hc : (Bb n && decide (mxd Bb day f n < day n)) = true
    · rw [if_pos hc]
      simp only [Bool.and_eq_true, decide_eq_true_eq] at hc
      refine ⟨by omega, fun a ha hb => ?_, fun z hz hb => hb n (by omega) hc.1⟩
      by_cases e : a = n
      · subst e; omega
      · have := h2 a (by omega) hb; omega
    · rw [if_neg hc]
      simp only [Bool.and_eq_true, decide_eq_true_eq] at hc
      refine ⟨h1, fun a ha hb => ?_, fun z hz hb => h3 z hz (fun a ha => hb a (by omega))⟩
      by_cases e : a = n
      · subst e
        have : ¬ mxd Bb day f a < day a := fun z => hc ⟨hb, z⟩
        omega
      · exact h2 a (by omega) hb
theorem mxd_lt {Bb : Nat → Bool} {day : Nat → Nat} {f : Nat} (hf : f < 60) : ∀ n, (∀ a, a < n → Bb a = true → day a < 60) → mxd Bb day f n < 60
  | 0, _ => hf
  | n + 1, h => by
    have ih := mxd_lt hf n (fun a ha => h a (by omega))
    unfold mxd
    split
    · rename_i hc
      simp only [Bool.and_eq_true, decide_eq_true_eq] at hc
      exact h n (by omega) hc.1
    · exact ih
theorem l_M_agreeF {b f : Nat} {day : Nat → Nat} {g : Nat → Nat → Int32} {v4 v5 : Int32} {P : Prop} (hn : n ≤ 12) (hb : b < n) (hB : g 75 b = nI (bts (bfb σ mm j b) n)) (hf : f < 60) (hd : ∀ a, a < n → bfb σ mm j b a = true → g 76 a = nI (day a) ∧ day a < 60)
    (Kc : wp X (d + 1) m_M_agree 331 [.ref 51, .int (nI u), .int (nI R), .int (nI n), .int v4, .int v5, .int (nI b), .int (nI (mxd (bfb σ mm j b) day f n)), .int (nI n)] [] (HP g hj) Q = P) :
    ∀ (m a : Nat), a + m = n →
    wp X (d + 1) m_M_agree 278 [.ref 51, .int (nI u), .int (nI R), .int (nI n), .int v4, .int v5, .int (nI b), .int (nI (mxd (bfb σ mm j b) day f a)), .int (nI a)] [] (HP g hj) Q = P
  | 0, a, ha => by
    have : a = n := by omega
    subst this
    rw [s_M_agree_278]
    simp (disch := omega) only [↓s_M_agree_280, ↓s_M_agree_281, nI_leI, nI_ltI, nI_eq, N_z, nI_add, pk_sub, pk_mul, kL_i, kL_r, kL_d, kL_l, kL_k, kL_f, Option.toList_some, Option.toList_none, List.cons_append, List.nil_append, bI_z, N_and, N_or, N_shl, N_shr, Nat.one_mul, Nat.reduceAdd, lg_cmp_eq, L_and, L_or, bI_1, bI_0, if_true, if_false, reduceIte, N_m1x, ite_not, Nat.le_refl]
    exact Kc
  | m + 1, a, ha => by
    have lb := bts_16 (bfb σ mm j b) (show n ≤ 16 by omega)
    have ih := l_M_agreeF hn hb hB hf hd Kc m (a + 1) (by omega)
    have e : mxd (bfb σ mm j b) day f (a + 1) = if (bfb σ mm j b a && decide (mxd (bfb σ mm j b) day f a < day a)) = true then day a else mxd (bfb σ mm j b) day f a := rfl
    have lm := mxd_lt hf a (fun x hx hbx => (hd x (by omega) hbx).2)
    have tb : (bts (bfb σ mm j b) n).testBit a = bfb σ mm j b a := by rw [bts_tb]; simp [show a < n by omega]
    rw [s_M_agree_278]
    simp (disch := omega) only [↓s_M_agree_280, ↓s_M_agree_281, ↓s_M_agree_284, ↓s_M_agree_285, ↓s_M_agree_288, ↓s_M_agree_290, ↓s_M_agree_291, ↓s_M_agree_293, ↓s_M_agree_296, nI_leI, nI_ltI, nI_eq, N_z, nI_add, pk_sub, pk_mul, kL_i, kL_r, kL_d, kL_l, kL_k, kL_f, Option.toList_some, Option.toList_none, List.cons_append, List.nil_append, bI_z, N_and, N_or, N_shl, N_shr, Nat.one_mul, Nat.reduceAdd, lg_cmp_eq, L_and, L_or, bI_1, bI_0, if_true, if_false, reduceIte, N_m1x, ite_not, hB, c_M_has, tb]
    rw [if_neg (by omega)]
    by_cases h1 : bfb σ mm j b a = true
    · obtain ⟨d1, d2⟩ := hd a (by omega) h1
      rw [if_pos h1]
      simp (disch := omega) only [↓s_M_agree_299, ↓s_M_agree_300, ↓s_M_agree_303, ↓s_M_agree_305, ↓s_M_agree_306, ↓s_M_agree_308, nI_leI, nI_ltI, nI_eq, N_z, nI_add, pk_sub, pk_mul, kL_i, kL_r, kL_d, kL_l, kL_k, kL_f, Option.toList_some, Option.toList_none, List.cons_append, List.nil_append, bI_z, N_and, N_or, N_shl, N_shr, Nat.one_mul, Nat.reduceAdd, lg_cmp_eq, L_and, L_or, bI_1, bI_0, if_true, if_false, reduceIte, N_m1x, ite_not, d1]
      by_cases h2 : mxd (bfb σ mm j b) day f a < day a
      · rw [if_pos (by simp [h1, h2])] at e
        rw [if_neg (by omega)]
        simp (disch := omega) only [↓s_M_agree_311, ↓s_M_agree_312, ↓s_M_agree_315, ↓s_M_agree_317, ↓s_M_agree_318, ↓s_M_agree_321, ↓s_M_agree_323, ↓s_M_agree_325, ↓s_M_agree_328, nI_leI, nI_ltI, nI_eq, N_z, nI_add, pk_sub, pk_mul, kL_i, kL_r, kL_d, kL_l, kL_k, kL_f, Option.toList_some, Option.toList_none, List.cons_append, List.nil_append, bI_z, N_and, N_or, N_shl, N_shr, Nat.one_mul, Nat.reduceAdd, lg_cmp_eq, L_and, L_or, bI_1, bI_0, if_true, if_false, reduceIte, N_m1x, ite_not, d1]
        rw [e] at ih
        exact ih
      · rw [if_neg (by simp [h2])] at e
        rw [if_pos (by omega)]
        simp (disch := omega) only [↓s_M_agree_321, ↓s_M_agree_323, ↓s_M_agree_325, ↓s_M_agree_328, nI_leI, nI_ltI, nI_eq, N_z, nI_add, pk_sub, pk_mul, kL_i, kL_r, kL_d, kL_l, kL_k, kL_f, Option.toList_some, Option.toList_none, List.cons_append, List.nil_append, bI_z, N_and, N_or, N_shl, N_shr, Nat.one_mul, Nat.reduceAdd, lg_cmp_eq, L_and, L_or, bI_1, bI_0, if_true, if_false, reduceIte, N_m1x, ite_not]
        rw [e] at ih
        exact ih
    · rw [if_neg (by simp [h1])] at e
      rw [if_neg h1]
      simp (disch := omega) only [↓s_M_agree_321, ↓s_M_agree_323, ↓s_M_agree_325, ↓s_M_agree_328, nI_leI, nI_ltI, nI_eq, N_z, nI_add, pk_sub, pk_mul, kL_i, kL_r, kL_d, kL_l, kL_k, kL_f, Option.toList_some, Option.toList_none, List.cons_append, List.nil_append, bI_z, N_and, N_or, N_shl, N_shr, Nat.one_mul, Nat.reduceAdd, lg_cmp_eq, L_and, L_or, bI_1, bI_0, if_true, if_false, reduceIte, N_m1x, ite_not]
      rw [e] at ih
      exact ih
theorem l_M_agreeG {b y0 L : Nat} {g : Nat → Nat → Int32} {v4 v5 v8 : Int32} (hb : b < 12) (hR : R < 6) (hm : g 74 b = nI L) (hL : L < 12) (hT : g 63 L = nI (σ 15 L)) (hT2 : σ 15 L < 60) (hY : hj 71 R = lN (dys σ R)) (hY2 : dys σ R < 1152921504606846976) (hy0 : y0 < 60)
    (Kc : ∀ y, y0 ≤ y → y < 61 → (∀ z, y0 ≤ z → z < y → ¬ (dys σ R).testBit z = true) → (σ 15 L < y ∨ (dys σ R).testBit y = true) → wp X (d + 1) m_M_agree 370 [.ref 51, .int (nI u), .int (nI R), .int (nI n), .int v4, .int v5, .int (nI b), .int (nI y), .int v8] [] (HP g hj) Q) :
    ∀ (m y : Nat), y + m = 61 → y0 ≤ y → y ≤ σ 15 L + 1 ∨ y = y0 → (∀ z, y0 ≤ z → z < y → ¬ (dys σ R).testBit z = true) →
    wp X (d + 1) m_M_agree 331 [.ref 51, .int (nI u), .int (nI R), .int (nI n), .int v4, .int v5, .int (nI b), .int (nI y), .int v8] [] (HP g hj) Q
  | 0, y, h1, h2, h3, h4 => by omega
  | m + 1, y, h1, h2, h3, h4 => by
    rw [s_M_agree_331]
    simp (disch := omega) only [↓s_M_agree_333, ↓s_M_agree_334, ↓s_M_agree_337, ↓s_M_agree_338, ↓s_M_agree_341, ↓s_M_agree_343, ↓s_M_agree_344, ↓s_M_agree_345, nI_leI, nI_ltI, nI_eq, N_z, nI_add, pk_sub, pk_mul, kL_i, kL_r, kL_d, kL_l, kL_k, kL_f, Option.toList_some, Option.toList_none, List.cons_append, List.nil_append, bI_z, N_and, N_or, N_shl, N_shr, Nat.one_mul, Nat.reduceAdd, lg_cmp_eq, L_and, L_or, bI_1, bI_0, if_true, if_false, reduceIte, N_m1x, ite_not, hm, hT]
    by_cases h5 : σ 15 L < y
    · rw [if_pos h5]
      exact Kc y h2 (by omega) h4 (Or.inl h5)
    · rw [if_neg h5]
      simp (disch := omega) only [↓s_M_agree_348, ↓s_M_agree_349, ↓s_M_agree_352, ↓s_M_agree_353, ↓s_M_agree_354, ↓s_M_agree_356, ↓s_M_agree_357, ↓s_M_agree_358, ↓s_M_agree_359, ↓s_M_agree_360, ↓s_M_agree_361, hY, L_bit, lg_cmp_eq, L_b0, ite_not]
      by_cases h6 : (dys σ R).testBit y = true
      · rw [if_pos h6]
        exact Kc y h2 (by omega) h4 (Or.inr h6)
      · rw [if_neg h6]
        simp (disch := omega) only [↓s_M_agree_364, ↓s_M_agree_367, nI_leI, nI_ltI, nI_eq, N_z, nI_add, pk_sub, pk_mul, kL_i, kL_r, kL_d, kL_l, kL_k, kL_f, Option.toList_some, Option.toList_none, List.cons_append, List.nil_append, bI_z, N_and, N_or, N_shl, N_shr, Nat.one_mul, Nat.reduceAdd, lg_cmp_eq, L_and, L_or, bI_1, bI_0, if_true, if_false, reduceIte, N_m1x, ite_not]
        refine l_M_agreeG hb hR hm hL hT hT2 hY hY2 hy0 Kc m (y + 1) (by omega) (by omega) (by omega) (fun z hz1 hz2 => ?_)
        by_cases e : z = y
        · subst e; exact h6
        · exact h4 z hz1 (by omega)
end MAG
