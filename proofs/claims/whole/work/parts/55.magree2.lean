section MAG2
variable {X : AX} {d : Nat} {Q : Option Value → AH → Prop} {g0 : Nat → Nat → Int32} {hj : Nat → Nat → Int64} {σ : ST} {Ls : List Nat} {j : Nat → Nat} {u R : Nat} {mm : Nat → Nat} {n : Nat}
abbrev MX (σ : ST) (mm j : Nat → Nat) (n : Nat) : Prop := AGx (fun b => b < n) (fun b a => bfb σ mm j b a = true) (fun b => oD σ (mm b) (j (mm b)))
def DI (σ : ST) (g0 g : Nat → Nat → Int32) (hj : Nat → Nat → Int64) (mm j : Nat → Nat) (R n k Dn : Nat) (day : Nat → Nat) : Prop :=
  MP σ g hj mm j R n ∧ (∀ x, x ≤ 75 ∨ 77 ≤ x → g x = g0 x) ∧ (∀ x, x < n → g 75 x = nI (bts (bfb σ mm j x) n)) ∧ Dn < 65536 ∧ pcn Dn n = k ∧ GIv (fun b => b < n) (fun b a => bfb σ mm j b a = true) (fun b => oD σ (mm b) (j (mm b))) k (fun x => Dn.testBit x = true) day ∧ ∀ b, Dn.testBit b = true → g 76 b = nI (day b) ∧ day b < 60
theorem dys_lt (w : WF σ) (r : Nat) : dys σ r < 1152921504606846976 := by
  unfold dys
  refine Nat.lt_of_le_of_lt (Nat.le_trans Nat.and_le_left Nat.and_le_left) ?_
  split
  · exact spn_lt (by omega)
  · exact hd_lt w r _ (Nat.le_refl _)
theorem l_M_agreeD (w : WF σ) (Kc : ∀ g, (∀ x, x ≤ 75 ∨ 77 ≤ x → g x = g0 x) → Q (some (.int (bI (cl (MX σ mm j n) = true)))) (HP g hj)) :
    ∀ (m k Dn : Nat) (day : Nat → Nat) (g : Nat → Nat → Int32) (v6 v7 v8 : Value), k + m = n → DI σ g0 g hj mm j R n k Dn day →
    wp X (d + 1) m_M_agree 190 [.ref 51, .int (nI u), .int (nI R), .int (nI n), .int (nI Dn), .int (nI k), v6, v7, v8] [] (HP g hj) Q
  | 0, k, Dn, day, g, v6, v7, v8, hk, ⟨p, e1, e2, hD, hp, gi, hd⟩ => by
    have hn := p.1
    have : k = n := by omega
    subst this
    rw [s_M_agree_190]
    simp (disch := omega) only [↓s_M_agree_192, ↓s_M_agree_193, ↓s_M_agree_413, ↓s_M_agree_414_0, ↓s_M_agree_414_1, ↓s_M_agree_414_b, nI_leI, nI_ltI, nI_eq, N_z, nI_add, pk_sub, pk_mul, kL_i, kL_r, kL_d, kL_l, kL_k, kL_f, Option.toList_some, Option.toList_none, List.cons_append, List.nil_append, bI_z, N_and, N_or, N_shl, N_shr, Nat.one_mul, Nat.reduceAdd, lg_cmp_eq, L_and, L_or, bI_1, bI_0, if_true, if_false, reduceIte, N_m1x, ite_not, Nat.le_refl]
    have := Kc g e1
    rw [bI_t (cl_t.mpr (GIv_end gi (pcn_all _ hp)))] at this
    exact this
  | m + 1, k, Dn, day, g, v6, v7, v8, hk, ⟨p, e1, e2, hD, hp, gi, hd⟩ => by
    have hn := p.1
    obtain ⟨_, hR2, hR6, hY, hmem⟩ := id p
    rw [s_M_agree_190]
    simp (disch := omega) only [↓s_M_agree_192, ↓s_M_agree_193, ↓s_M_agree_196, ↓s_M_agree_197, ↓s_M_agree_199, ↓s_M_agree_200, nI_leI, nI_ltI, nI_eq, N_z, nI_add, pk_sub, pk_mul, kL_i, kL_r, kL_d, kL_l, kL_k, kL_f, Option.toList_some, Option.toList_none, List.cons_append, List.nil_append, bI_z, N_and, N_or, N_shl, N_shr, Nat.one_mul, Nat.reduceAdd, lg_cmp_eq, L_and, L_or, bI_1, bI_0, if_true, if_false, reduceIte, N_m1x, ite_not]
    rw [if_neg (by omega)]
    refine l_M_agreeE (σ := σ) (j := j) (mm := mm) hn hD e2 (fun b hb hnd hsub => ?_) (fun hno => ?_) n 0 (by omega) (fun b hb => by omega)
    · obtain ⟨x1, x2, x3, x4, x5, x6, x7, x8, x9, x10⟩ := hmem b hb
      obtain ⟨f0, f1, f2, f3, f4, f5⟩ := w.2.2.2.1.2 (mm b) x2
      have hdd : oD σ (mm b) (j (mm b)) = spn (σ 14 (mm b)) (σ 15 (mm b)) &&& dys σ R := by
        unfold oD dd ld; rw [x10]
      have tbD : ∀ z, (oD σ (mm b) (j (mm b))).testBit z = true ↔ (σ 14 (mm b) ≤ z ∧ z ≤ σ 15 (mm b)) ∧ (dys σ R).testBit z = true := by
        intro z
        rw [hdd, Nat.testBit_and, spn_tb, Bool.and_eq_true, decide_eq_true_eq]
      have hday : ∀ a, a < n → bfb σ mm j b a = true → g 76 a = nI (day a) ∧ day a < 60 := fun a ha hab => hd a (hsub a ha hab)
      simp (disch := omega) only [↓s_M_agree_261, ↓s_M_agree_262, ↓s_M_agree_265, ↓s_M_agree_266, ↓s_M_agree_269, ↓s_M_agree_271, ↓s_M_agree_272, ↓s_M_agree_273, ↓s_M_agree_275, ↓s_M_agree_276, nI_leI, nI_ltI, nI_eq, N_z, nI_add, pk_sub, pk_mul, kL_i, kL_r, kL_d, kL_l, kL_k, kL_f, Option.toList_some, Option.toList_none, List.cons_append, List.nil_append, bI_z, N_and, N_or, N_shl, N_shr, Nat.one_mul, Nat.reduceAdd, lg_cmp_eq, L_and, L_or, bI_1, bI_0, if_true, if_false, reduceIte, N_m1x, ite_not, x4, x8]
      refine (l_M_agreeF (σ := σ) (j := j) (mm := mm) (day := day) (f := σ 14 (mm b)) hn hb (e2 b hb) (by omega) hday rfl n 0 (by omega)).mpr ?_
      obtain ⟨m1, m2, m3⟩ := mxd_ok (bfb σ mm j b) day (σ 14 (mm b)) n
      have ml := mxd_lt (Bb := bfb σ mm j b) (day := day) (f := σ 14 (mm b)) (by omega) n (fun a ha hab => (hday a ha hab).2)
      refine l_M_agreeG (σ := σ) (L := mm b) (by omega) hR6 x4 x1 x9 f4 hY (dys_lt w R) ml (fun y y1 y2 y3 y4 => ?_) (61 - mxd (bfb σ mm j b) day (σ 14 (mm b)) n) _ (by omega) (Nat.le_refl _) (Or.inr rfl) (fun z z1 z2 => by omega)
      simp (disch := omega) only [↓s_M_agree_370, ↓s_M_agree_372, ↓s_M_agree_373, ↓s_M_agree_376, ↓s_M_agree_377, ↓s_M_agree_380, ↓s_M_agree_382, ↓s_M_agree_383, ↓s_M_agree_384, ↓s_M_agree_387, ↓s_M_agree_388_0, ↓s_M_agree_388_1, ↓s_M_agree_388_b, nI_leI, nI_ltI, nI_eq, N_z, nI_add, pk_sub, pk_mul, kL_i, kL_r, kL_d, kL_l, kL_k, kL_f, Option.toList_some, Option.toList_none, List.cons_append, List.nil_append, bI_z, N_and, N_or, N_shl, N_shr, Nat.one_mul, Nat.reduceAdd, lg_cmp_eq, L_and, L_or, bI_1, bI_0, if_true, if_false, reduceIte, N_m1x, ite_not, x4, x9]
      by_cases h1 : y ≤ σ 15 (mm b)
      · rw [if_pos h1]
        have hbit : (dys σ R).testBit y = true := by
          rcases y4 with z | z
          · omega
          · exact z
        simp (disch := omega) only [↓s_M_agree_389, ↓s_M_agree_390, ↓s_M_agree_393, ↓s_M_agree_395, ↓s_M_agree_397, ↓s_M_agree_398, ↓s_M_agree_400, ↓s_M_agree_401, ↓s_M_agree_403, ↓s_M_agree_404, ↓s_M_agree_405, ↓s_M_agree_407, ↓s_M_agree_410, nI_leI, nI_ltI, nI_eq, N_z, nI_add, pk_sub, pk_mul, kL_i, kL_r, kL_d, kL_l, kL_k, kL_f, Option.toList_some, Option.toList_none, List.cons_append, List.nil_append, bI_z, N_and, N_or, N_shl, N_shr, Nat.one_mul, Nat.reduceAdd, lg_cmp_eq, L_and, L_or, bI_1, bI_0, if_true, if_false, reduceIte, N_m1x, ite_not]
        refine l_M_agreeD w Kc m (k + 1) (Dn ||| 2 ^ b) (pu day b y) _ _ _ _ (by omega) ⟨MP_cg p (fun x hx => by simp (disch := omega) only [u2_r]), fun x hx => ?_, fun x hx => ?_, ?_, ?_, ?_, fun x hx => ?_⟩
        · simp (disch := omega) only [u2_r]; exact e1 x hx
        · simp (disch := omega) only [u2_n]; exact e2 x hx
        · exact Nat.or_lt_two_pow (n := 16) hD (Nat.pow_lt_pow_right (by omega) (by omega))
        · rw [pcn_or hnd n hb, hp]
        · refine GIv_s (b := b) (y := y) gi hb hnd hsub ((tbD y).mpr ⟨⟨by omega, h1⟩, hbit⟩) (fun a ha hab => Nat.le_trans (m2 a ha hab) y1) (fun z hz hz2 => ?_) (fun x => ?_) (pu_s _ _ _) (fun x hx => pu_n _ (fun e => hnd (e ▸ hx)))
          · obtain ⟨q1, q2⟩ := (tbD z).mp hz
            have q3 := m3 z q1.1 hz2
            by_cases q4 : y ≤ z
            · exact q4
            · exact absurd q2 (y3 z q3 (by omega))
          · rw [or_tb]
            simp only [Bool.or_eq_true, decide_eq_true_eq]
            constructor
            · rintro (h | h)
              · exact Or.inl h
              · exact Or.inr h.symm
            · rintro (h | h)
              · exact Or.inl h
              · exact Or.inr h.symm
        · by_cases e : x = b
          · subst e
            rw [u2_s, pu_s]
            exact ⟨rfl, by omega⟩
          · rw [u2_m _ _ _ _ e, pu_n _ e]
            rw [or_tb] at hx
            simp only [Bool.or_eq_true, decide_eq_true_eq] at hx
            rcases hx with h | h
            · exact hd x h
            · exact absurd h.symm e
      · rw [if_neg h1]
        have hno : ¬ MX σ mm j n := by
          refine GIv_no2 (b := b) gi hb hsub (fun z hz => ?_)
          obtain ⟨q1, q2⟩ := (tbD z).mp hz
          by_cases q3 : ∃ a, a < n ∧ bfb σ mm j b a = true ∧ z < day a
          · exact q3
          · exfalso
            have q4 := m3 z q1.1 (fun a ha hab => by
              by_cases q5 : day a ≤ z
              · exact q5
              · exact absurd ⟨a, ha, hab, by omega⟩ q3)
            exact y3 z q4 (by omega) q2
        have := Kc g e1
        rw [bI_f (fun z => hno (cl_t.mp z))] at this
        exact this
    · have hno2 : ¬ MX σ mm j n := by
        refine GIv_no1 (D := fun x => Dn.testBit x = true) (fun b hb hnd => ?_) ?_
        · obtain ⟨a, a1, a2, a3⟩ := hno b hb hnd
          exact ⟨a, a1, a2, a3⟩
        · obtain ⟨b, b1, b2⟩ := pcn_ex (a := Dn) n (by omega)
          exact ⟨b, b1, b2⟩
      have := Kc g e1
      rw [bI_f (fun z => hno2 (cl_t.mp z))] at this
      exact this
/-- whether the lumps of the order, up to one, that are of its ring, agree -/
theorem c_M_agree (a : AP σ g0 hj Ls j u) (Kc : ∀ g, (∀ x, x ≤ 73 ∨ 77 ≤ x → g x = g0 x) → Q (some (.int (bI (cl (AGL σ j (fun x => (∃ p, p ≤ u ∧ x = Ls.getD p 0) ∧ oR σ x (j x) = oR σ (Ls.getD u 0) (j (Ls.getD u 0)))) = true)))) (HP g hj)) : cwp X (d + 1) m_M_agree [.ref 51, .int (nI u)] (HP g0 hj) Q := by
  obtain ⟨r1, r2, r3, r4, r5, r6, r7, r8, r9⟩ := AP_rd a (Nat.le_refl u)
  obtain ⟨a1, a2, a3, a4, a5, a6, a7, a8⟩ := id a
  have w := a1.1
  have w1 := w.2.2.2.1.1
  simp (disch := omega) only [e_M_agree, ↓s_M_agree_0, ↓s_M_agree_1, ↓s_M_agree_4, ↓s_M_agree_5, ↓s_M_agree_8, ↓s_M_agree_9, ↓s_M_agree_12, ↓s_M_agree_13, ↓s_M_agree_14, ↓s_M_agree_15, ↓s_M_agree_16, ↓s_M_agree_17, ↓s_M_agree_18, ↓s_M_agree_19, ↓s_M_agree_20, nI_leI, nI_ltI, nI_eq, N_z, nI_add, pk_sub, pk_mul, kL_i, kL_r, kL_d, kL_l, kL_k, kL_f, Option.toList_some, Option.toList_none, List.cons_append, List.nil_append, bI_z, N_and, N_or, N_shl, N_shr, Nat.one_mul, Nat.reduceAdd, lg_cmp_eq, L_and, L_or, bI_1, bI_0, if_true, if_false, reduceIte, N_m1x, ite_not, r3, r4, r5]
  refine l_M_agreeA rfl a (fun g v4 e1 e2 => ?_) (u + 1) 0 g0 (by omega) (fun _ _ => rfl) (fun i hi => by simp [mlr] at hi)
  simp only [↓s_M_agree_71, ↓s_M_agree_72, kL_i]
  generalize hR : oR σ (Ls.getD u 0) (j (Ls.getD u 0)) = R at *
  have hlen := mlr_len σ Ls j R (u + 1)
  have b := AP_cg a (g2 := g) (fun k hk => e1 k (by omega))
  have hmp : MP σ g hj (fun i => (mlr σ Ls j R (u + 1)).getD i 0) j R (mlr σ Ls j R (u + 1)).length := by
    refine ⟨by omega, r9, r8, a2.2 R r9, fun i hi => ?_⟩
    have hm := gD_mem hi
    obtain ⟨p, p1, p2, p3⟩ := (mlr_mem (u + 1)).mp hm
    obtain ⟨q1, q2, q3, q4, q5, q6, q7, q8, q9⟩ := AP_rd b (show p ≤ u by omega)
    rw [← p2] at q1 q2 q4 q5 q6 q7
    obtain ⟨z1, z2, z3, z4, z5⟩ := b.1.2.2.2.2.2 _ q1
    exact ⟨Nat.lt_of_lt_of_le q1 w1, q1, q2, e2 i hi, q4, q6, q7, z3, z4, p3⟩
  have hfin : AGL σ j (fun x => (∃ p, p ≤ u ∧ x = Ls.getD p 0) ∧ oR σ x (j x) = R) ↔ MX σ (fun i => (mlr σ Ls j R (u + 1)).getD i 0) j (mlr σ Ls j R (u + 1)).length := by
    have hnd := mlr_nd (σ := σ) (j := j) (R := R) a5 (u + 1) (by omega)
    rw [AGL_x (M := fun b => b < (mlr σ Ls j R (u + 1)).length) (f := fun i => (mlr σ Ls j R (u + 1)).getD i 0) (fun x y hx hy e => gD_inj hnd hx hy e)]
    · refine AGx_cg (fun x y hx hy => ?_) (fun _ _ => rfl)
      unfold bfb
      rw [decide_eq_true_eq]
    · intro l
      constructor
      · rintro ⟨⟨p, p1, p2⟩, p3⟩
        have hm : l ∈ mlr σ Ls j R (u + 1) := (mlr_mem (u + 1)).mpr ⟨p, by omega, p2, p3⟩
        obtain ⟨i, hi, e⟩ := List.getElem_of_mem hm
        refine ⟨i, hi, ?_⟩
        rw [List.getD_eq_getElem?_getD, List.getElem?_eq_getElem hi]
        exact e
      · rintro ⟨i, hi, e⟩
        have hm := gD_mem hi
        rw [e] at hm
        obtain ⟨p, p1, p2, p3⟩ := (mlr_mem (u + 1)).mp hm
        exact ⟨⟨p, by omega, p2⟩, p3⟩
  rw [cl_cg hfin] at Kc
  refine l_M_agreeB (g0 := g) w (fun g2 v5 v6 p f1 f2 => ?_) (mlr σ Ls j R (u + 1)).length 0 g _ _ (by omega) hmp (fun _ _ => rfl) (fun x hx => by omega)
  simp only [↓s_M_agree_184, ↓s_M_agree_185, ↓s_M_agree_187, ↓s_M_agree_188, kL_i]
  refine l_M_agreeD (g0 := g2) w (fun g3 f3 => Kc g3 (fun x hx => ?_)) (mlr σ Ls j R (u + 1)).length 0 0 (fun _ => 0) g2 _ _ _ (by omega) ⟨p, fun _ _ => rfl, f2, by omega, ?_, GIv_0 (fun b => by simp), fun b hb => by simp at hb⟩
  · rw [f3 x (by omega), f1 x (by omega), e1 x hx]
  · have : ∀ k, pcn 0 k = 0 := by
      intro k
      induction k with
      | zero => rfl
      | succ k ih => unfold pcn; rw [ih]; simp
    exact this _
end MAG2
