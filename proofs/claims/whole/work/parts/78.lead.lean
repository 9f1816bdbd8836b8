/-! lead -/
def Frl (g0 g : Nat → Nat → Int32) : Prop := (∀ i, i < 19 ∨ i = 20 ∨ (24 ≤ i ∧ i < 33) ∨ i = 38 ∨ 42 ≤ i → g i = g0 i) ∧ ∀ i, i ≠ 8 → i ≠ 9 → g 19 i = g0 19 i
section LEAD
variable {X : AX} {hj : Nat → Nat → Int64} {σ : ST}
theorem Frl_t {g0 g1 g2 : Nat → Nat → Int32} (h1 : Frl g0 g1) (h2 : Frl g1 g2) : Frl g0 g2 := ⟨fun i hi => (h2.1 i hi).trans (h1.1 i hi), fun i i1 i2 => (h2.2 i i1 i2).trans (h1.2 i i1 i2)⟩
theorem EWp_cg {A B S T : Nat → Prop} {j : Nat → Nat} (h1 : ∀ l, A l ↔ B l) (h2 : ∀ l, S l ↔ T l) : EWp σ A S j ↔ EWp σ B T j := by
  have e1 : A = B := funext (fun l => propext (h1 l))
  have e2 : S = T := funext (fun l => propext (h2 l))
  rw [e1, e2]
theorem dnk_A {Ls : List Nat} {k x : Nat} (hk : k ≤ Ls.length) : x ∈ dnk Ls k ↔ inA Ls (2 ^ k - 1) x := by rw [dnk_mem hk, inA_k]
theorem drop_F {Ls : List Nat} {k x : Nat} (hk : k ≤ Ls.length) : x ∈ Ls.drop k ↔ inF Ls (2 ^ Ls.length - 2 ^ k) 0 x := by
  unfold inF
  constructor
  · intro h
    obtain ⟨i, hi, e⟩ := List.getElem_of_mem h
    rw [List.length_drop] at hi
    refine ⟨k + i, by omega, by omega, by rw [pf_tb hk]; simp; omega, ?_⟩
    rw [← e, List.getElem_drop, List.getD_eq_getElem?_getD, List.getElem?_eq_getElem (by omega)]
    rfl
  · rintro ⟨p, _, p2, p3, rfl⟩
    rw [pf_tb hk] at p3
    simp at p3
    rw [List.getD_eq_getElem?_getD, List.getElem?_eq_getElem p2]
    have : (Ls.drop k)[p - k]'(by rw [List.length_drop]; omega) = Ls[p] := by
      rw [List.getElem_drop]
      congr 1
      omega
    show Ls[p] ∈ _
    rw [← this]
    exact List.getElem_mem _
/-- where a prefix cannot be gone on from, there is no way -/
theorem no_way {Ls : List Nat} {k : Nat} {j : Nat → Nat} (nd : Ls.Nodup) (hk : k ≤ Ls.length) (ag : ∀ r, r < 6 → AGM σ Ls j (2 ^ k - 1) r) (hR : ∀ l, inA Ls (2 ^ k - 1) l → oR σ l (j l) < 6) : Ws σ (Ls.drop k) (dnk Ls k) j ≠ [] ↔ EWk σ Ls k (2 ^ Ls.length - 2 ^ k) j := by
  rw [Ws_ne (Ls.drop k) (dnk Ls k) j (nd.sublist (List.drop_sublist _ _)) (fun l hl hm => ?_) (fun r => ?_)]
  · exact EWp_cg (fun l => dnk_A hk) (fun l => drop_F hk)
  · obtain ⟨q, q1, q2⟩ := (dnk_mem hk).mp hm
    obtain ⟨p, _, p2, p3, p4⟩ := (drop_F hk).mp hl
    rw [pf_tb hk] at p3
    simp at p3
    have := gD_inj nd (show q < Ls.length by omega) p2 (q2.symm.trans p4)
    omega
  · by_cases hr : r < 6
    · exact (AGL_iff (fun l => by rw [dnk_A hk])).mpr (AGM_A.mp (ag r hr))
    · refine AGL_0 (fun l hl => ?_)
      have := hR l ((dnk_A hk).mp hl.1)
      have := hl.2
      omega
theorem cap_app {α : Type} {A B : List α} {n : Nat} {dn : List α} : (dn ++ A.take (n - dn.length)) ++ B.take (n - (dn ++ A.take (n - dn.length)).length) = dn ++ (A ++ B).take (n - dn.length) := by
  rw [List.take_append, List.append_assoc]
  congr 2
  rw [List.length_append, List.length_take]
  congr 1
  omega
/-- what lead leaves behind -/
def LDk (X : AX) (hj : Nat → Nat → Int64) (σ : ST) (m : Nat) : Prop :=
  ∀ (k : Nat) (j : Nat → Nat) (dn : List (Nat → Nat)) (g : Nat → Nat → Int32) (d : Nat) (Q : Option Value → AH → Prop), k + m = (PL σ).length → CP σ (PL σ) g hj → SS1 σ (PL σ) k j g → TC σ dn g → VD σ dn → RO σ dn k g → dn.length < 20000 → (∀ r, r < σ 2 0 → g 20 r = nI (stone σ r)) →
    (∀ g', Frl g g' → SS1 σ (PL σ) k j g' → TC σ (dn ++ (Ws σ ((PL σ).drop k) (dnk (PL σ) k) j).take (20000 - dn.length)) g' → RO σ (dn ++ (Ws σ ((PL σ).drop k) (dnk (PL σ) k) j).take (20000 - dn.length)) k g' → (∀ p, p < k → g' 23 ((PL σ).getD p 0) = g 23 ((PL σ).getD p 0)) → (∀ l, l ∉ PL σ → g' 23 l = g 23 l) → Q none (HP g' hj)) →
    cwp X (d + m + 22) m_Ways_lead [.ref 19, .int (nI k), .int (nI (stw σ j ((PL σ).take k) 0))] (HP g hj) Q
theorem lead_0 : LDk X hj σ 0 := by
  intro k j dn g d Q hk c ss tc vd ro hl st Kc
  have hn := c.2.1
  have hkk : k = (PL σ).length := by omega
  subst hkk
  have e0 := c.1.1
  have w := c.2.2.2.2
  have hjv : ∀ l, l ∈ PL σ → j l < on σ l 6 := by
    intro l hl
    obtain ⟨p, hp, e⟩ := List.getElem_of_mem hl
    have := (ss.1.2.2.1 p (by rw [Nat.testBit_two_pow_sub_one]; simp [hp])).2
    rw [List.getD_eq_getElem?_getD, List.getElem?_eq_getElem hp] at this
    change j ((PL σ)[p]) < on σ ((PL σ)[p]) 6 at this
    rw [e] at this
    exact this
  have sl_ := stw_lt (PL σ) 0 (by omega) (fun l hl => st_ok w (hjv l hl))
  have eW : Ws σ ((PL σ).drop (PL σ).length) (dnk (PL σ) (PL σ).length) j = [j] := by rw [List.drop_length]; rfl
  rw [eW, List.take_of_length_le (by simp; omega)] at Kc
  rw [List.take_length]
  have ec : pcn (stw σ j (PL σ) 0) 16 = cnt σ j := rfl
  simp (disch := omega) only [e_Ways_lead, ↓s_Ways_lead_0, ↓s_Ways_lead_1, ↓s_Ways_lead_2, ↓s_Ways_lead_5, ↓s_Ways_lead_8, ↓s_Ways_lead_11, ↓s_Ways_lead_12, ↓s_Ways_lead_13, ↓s_Ways_lead_16, nI_leI, nI_ltI, nI_eq, N_z, nI_add, pk_sub, pk_mul, kL_i, kL_r, kL_d, kL_l, kL_k, kL_f, Option.toList_some, Option.toList_none, List.cons_append, List.nil_append, bI_z, N_and, N_or, N_shl, N_shr, Nat.one_mul, Nat.reduceAdd, lg_cmp_eq, L_and, L_or, bI_1, bI_0, if_true, if_false, reduceIte, N_m1x, ite_not, e0, Nat.lt_irrefl, c_JI_bitCount, ec]
  refine c_tell c ss.1 tc hl hjv (fun g' f1 f2 tc' => ?_)
  simp (disch := omega) only [↓s_Ways_lead_19, nI_leI, nI_ltI, nI_eq, N_z, nI_add, pk_sub, pk_mul, kL_i, kL_r, kL_d, kL_l, kL_k, kL_f, Option.toList_some, Option.toList_none, List.cons_append, List.nil_append, bI_z, N_and, N_or, N_shl, N_shr, Nat.one_mul, Nat.reduceAdd, lg_cmp_eq, L_and, L_or, bI_1, bI_0, if_true, if_false, reduceIte, N_m1x, ite_not]
  have ss' : SS1 σ (PL σ) (PL σ).length j g' := by
    refine ⟨?_, FT_cg ss.2.1 (f1 39 (by omega) (by omega) (by omega)) (f1 40 (by omega) (by omega) (by omega)), by rw [f1 41 (by omega) (by omega) (by omega)]; exact ss.2.2.1, ss.2.2.2⟩
    have := ss.1
    unfold GI at this ⊢
    rw [f1 33 (by omega) (by omega) (by omega), f1 34 (by omega) (by omega) (by omega), f1 35 (by omega) (by omega) (by omega), f1 36 (by omega) (by omega) (by omega)]
    exact this
  exact Kc g' ⟨fun i hi => f1 i (by omega) (by omega) (by omega), f2⟩ ss' tc' (fun p p1 p2 => by omega) (fun p hp => by rw [f1 23 (by omega) (by omega) (by omega)]) (fun l hl => by rw [f1 23 (by omega) (by omega) (by omega)])
theorem lead_s {m : Nat} (ih : LDk X hj σ m) : LDk X hj σ (m + 1) := by
  intro k j dn g d Q hk c ss tc vd ro hl st Kc
  have hn := c.2.1
  have nd := c.2.2.1
  have hkl : k < (PL σ).length := by omega
  have e0 := c.1.1
  have w := c.2.2.2.2
  have hon := on_le (σ := σ) (l := (PL σ).getD k 0) 6
  have hb := bas_le (σ := σ) (Ls := PL σ) k
  have w2 := w.2.1.1
  generalize hL : (PL σ).getD k 0 = l at *
  have hlm : l ∈ PL σ := by rw [← hL]; exact gD_mem hkl
  have hlk : ∀ q, q < (PL σ).length → q ≠ k → (PL σ).getD q 0 ≠ l := fun q h1 h2 => by rw [← hL]; exact L_ne nd h1 hkl h2
  have ed : l :: dnk (PL σ) k = dnk (PL σ) (k + 1) := by rw [dnk_s hkl, hL]
  have sml : stw σ j ((PL σ).take k) 0 < 64 := by
    refine stw_lt _ 0 (by omega) (fun x hx => ?_)
    obtain ⟨p, p1, p2⟩ := (tk_mem (by omega)).mp hx
    subst p2
    exact st_ok w (ss.1.2.2.1 p (by rw [Nat.testBit_two_pow_sub_one]; simp [p1])).2
  rw [drop_s hkl, hL] at Kc
  have eW : Ws σ (l :: (PL σ).drop (k + 1)) (dnk (PL σ) k) j = flm (fun c => if okB σ (l :: dnk (PL σ) k) l (pu j l c) = true then Ws σ ((PL σ).drop (k + 1)) (l :: dnk (PL σ) k) (pu j l c) else []) (on σ l 6) 0 := rfl
  rw [eW] at Kc
  generalize hf : (fun c => if okB σ (l :: dnk (PL σ) k) l (pu j l c) = true then Ws σ ((PL σ).drop (k + 1)) (l :: dnk (PL σ) k) (pu j l c) else []) = f at Kc
  have k1' := fun Q' => c_startOf (X := X) (Q := Q') (d := d + m + 22) (r := 0) c hkl (by omega)
  have k2' := fun Q' => c_endOf (X := X) (Q := Q') (d := d + m + 22) (r := 5) c hkl (by omega)
  simp only [hL, Nat.reduceAdd] at k1' k2'
  rw [show d + (m + 1) + 22 = d + m + 22 + 1 by omega]
  simp (disch := omega) only [e_Ways_lead, ↓s_Ways_lead_0, ↓s_Ways_lead_1, ↓s_Ways_lead_2, ↓s_Ways_lead_5, ↓s_Ways_lead_8, ↓s_Ways_lead_11, ↓s_Ways_lead_12, ↓s_Ways_lead_13, ↓s_Ways_lead_16, ↓s_Ways_lead_19, ↓s_Ways_lead_20, ↓s_Ways_lead_21, ↓s_Ways_lead_24, ↓s_Ways_lead_25, ↓s_Ways_lead_26, ↓s_Ways_lead_29, ↓s_Ways_lead_30, ↓s_Ways_lead_31, ↓s_Ways_lead_34, ↓s_Ways_lead_35, ↓s_Ways_lead_36, ↓s_Ways_lead_39, nI_leI, nI_ltI, nI_eq, N_z, nI_add, pk_sub, pk_mul, kL_i, kL_r, kL_d, kL_l, kL_k, kL_f, Option.toList_some, Option.toList_none, List.cons_append, List.nil_append, bI_z, N_and, N_or, N_shl, N_shr, Nat.one_mul, Nat.reduceAdd, lg_cmp_eq, L_and, L_or, bI_1, bI_0, if_true, if_false, reduceIte, N_m1x, ite_not, e0, k1', k2']
  rw [if_pos hkl]
  -- the loop over the options
  have loop : ∀ (n i : Nat) (dn : List (Nat → Nat)) (g1 : Nat → Nat → Int32) (v5 v6 v7 : Value), i + n = on σ l 6 → Frl g g1 → SS1 σ (PL σ) k j g1 → TC σ dn g1 → VD σ dn → RO σ dn k g1 → dn.length ≤ 20000 → (∀ p, p < k → g1 23 ((PL σ).getD p 0) = g 23 ((PL σ).getD p 0)) → (∀ x, x ∉ PL σ → g1 23 x = g 23 x) →
      (∀ g', Frl g g' → SS1 σ (PL σ) k j g' → TC σ (dn ++ (flm f n i).take (20000 - dn.length)) g' → RO σ (dn ++ (flm f n i).take (20000 - dn.length)) k g' → (∀ p, p < k → g' 23 ((PL σ).getD p 0) = g 23 ((PL σ).getD p 0)) → (∀ x, x ∉ PL σ → g' 23 x = g 23 x) → Q none (HP g' hj)) →
      wp X (d + m + 22 + 1) m_Ways_lead 41 [.ref 19, .int (nI k), .int (nI (stw σ j ((PL σ).take k) 0)), .int (nI (bas σ (PL σ) k + on σ l 6)), .int (nI (bas σ (PL σ) k + i)), v5, v6, v7] [] (HP g1 hj) Q := by
    intro n
    induction n with
    | zero =>
      intro i dn g1 v5 v6 v7 hi f1 s1 t1 vd1 r1 l1 y1 y2 Kc
      rw [s_Ways_lead_41]
      simp (disch := omega) only [↓s_Ways_lead_43, ↓s_Ways_lead_44, ↓s_Ways_lead_224, nI_leI, nI_ltI, nI_eq, N_z, nI_add, pk_sub, pk_mul, kL_i, kL_r, kL_d, kL_l, kL_k, kL_f, Option.toList_some, Option.toList_none, List.cons_append, List.nil_append, bI_z, N_and, N_or, N_shl, N_shr, Nat.one_mul, Nat.reduceAdd, lg_cmp_eq, L_and, L_or, bI_1, bI_0, if_true, if_false, reduceIte, N_m1x, ite_not]
      rw [if_pos (by omega)]
      have e1 : dn ++ (flm f 0 i).take (20000 - dn.length) = dn := by
        show dn ++ List.take _ [] = dn
        rw [List.take_nil, List.append_nil]
      rw [e1] at Kc
      exact Kc g1 f1 s1 t1 r1 y1 y2
    | succ n ihn =>
      intro i dn g1 v5 v6 v7 hi f1 s1 t1 vd1 r1 l1 y1 y2 Kc
      have c1 := CP_cg c (g2 := g1) (fun x _ _ => f1.1 x (by omega))
      have i6 : i < on σ ((PL σ).getD k 0) 6 := by rw [hL]; omega
      obtain ⟨p1, p2, p3, p4, p5, p6, p7, p8⟩ := CP_rd c1 hkl i6
      rw [hL] at p2 p3 p4 p5 p6 p7 p8 i6
      have rR := (op_ok i6).2.1
      generalize hρ : oR σ l i = ρ at *
      obtain ⟨c0, z1, z2, z3, z4⟩ := s1.2.1.1 ρ p7
      have e08 := t1.1
      rw [s_Ways_lead_41]
      simp (disch := omega) only [↓s_Ways_lead_43, ↓s_Ways_lead_44, ↓s_Ways_lead_47, ↓s_Ways_lead_48, ↓s_Ways_lead_51, ↓s_Ways_lead_54, nI_leI, nI_ltI, nI_eq, N_z, nI_add, pk_sub, pk_mul, kL_i, kL_r, kL_d, kL_l, kL_k, kL_f, Option.toList_some, Option.toList_none, List.cons_append, List.nil_append, bI_z, N_and, N_or, N_shl, N_shr, Nat.one_mul, Nat.reduceAdd, lg_cmp_eq, L_and, L_or, bI_1, bI_0, if_true, if_false, reduceIte, N_m1x, ite_not, e08]
      rw [if_neg (by omega)]
      by_cases h20 : 20000 ≤ dn.length
      · rw [if_pos h20]
        simp (disch := omega) only [↓s_Ways_lead_224]
        have e1 : dn ++ (flm f (n + 1) i).take (20000 - dn.length) = dn := by
          rw [show 20000 - dn.length = 0 by omega, List.take_zero, List.append_nil]
        rw [e1] at Kc
        exact Kc g1 f1 s1 t1 r1 y1 y2
      rw [if_neg h20]
      have eS : flm f (n + 1) i = f i ++ flm f n (i + 1) := rfl
      simp (disch := omega) only [↓s_Ways_lead_57, ↓s_Ways_lead_58, ↓s_Ways_lead_61, ↓s_Ways_lead_64, ↓s_Ways_lead_66, ↓s_Ways_lead_67, ↓s_Ways_lead_69, ↓s_Ways_lead_70, ↓s_Ways_lead_73, ↓s_Ways_lead_75, ↓s_Ways_lead_76, ↓s_Ways_lead_79, ↓s_Ways_lead_82, ↓s_Ways_lead_84, ↓s_Ways_lead_85, ↓s_Ways_lead_87, ↓s_Ways_lead_88, ↓s_Ways_lead_91, ↓s_Ways_lead_92, ↓s_Ways_lead_94, nI_leI, nI_ltI, nI_eq, N_z, nI_add, pk_sub, pk_mul, kL_i, kL_r, kL_d, kL_l, kL_k, kL_f, Option.toList_some, Option.toList_none, List.cons_append, List.nil_append, bI_z, N_and, N_or, N_shl, N_shr, Nat.one_mul, Nat.reduceAdd, lg_cmp_eq, L_and, L_or, bI_1, bI_0, if_true, if_false, reduceIte, N_m1x, ite_not, p2, e08, z2]
      have haK : ¬ (2 ^ k - 1).testBit k = true := by rw [Nat.testBit_two_pow_sub_one]; simp
      have i6' : i < on σ ((PL σ).getD k 0) 6 := by rw [hL]; exact i6
      refine c_enter c1 s1.1 hkl haK i6' (fun g2 f2 gi2 => ?_)
      rw [ones_or, hL] at gi2
      have c2 := CP_cg c1 (g2 := g2) (fun x _ _ => f2 x (by omega))
      have jl : pu j l i l = i := pu_s _ _ _
      have jo : ∀ q, q < k → pu j l i ((PL σ).getD q 0) = j ((PL σ).getD q 0) := fun q hq => pu_n _ (hlk q (by omega) (by omega))
      have agk : ∀ r, r < 6 → r ≠ ρ → AGM σ (PL σ) (pu j l i) (2 ^ (k + 1) - 1) r := by
        intro r hr hne
        refine AGM_A.mpr (AGL_cg (S := fun x => inA (PL σ) (2 ^ (k + 1) - 1) x ∧ oR σ x (pu j l i x) = r) (AGL_sub (AGM_A.mp (s1.2.2.2 r hr)) (fun x hx => ?_)) (fun x hx => ?_))
        · obtain ⟨q, q1, rfl⟩ := inA_k.mp hx.1
          have qk : q ≠ k := by
            intro e
            subst e
            have := hx.2
            rw [hL, jl, hρ] at this
            exact hne this.symm
          have := hx.2
          rw [jo q (by omega)] at this
          exact ⟨inA_k.mpr ⟨q, by omega, rfl⟩, this⟩
        · obtain ⟨q, q1, rfl⟩ := inA_k.mp hx.1
          have qk : q ≠ k := by
            intro e
            subst e
            have := hx.2
            rw [hL, jl, hρ] at this
            exact hne this.symm
          exact (jo q (by omega)).symm
      have oth : AGL σ (pu j l i) (fun x => ∃ q, mbr σ (PL σ) (pu j l i) (2 ^ (k + 1) - 1) ρ q = true ∧ q ≠ k ∧ x = (PL σ).getD q 0) := by
        refine AGL_cg (S := fun x => ∃ q, mbr σ (PL σ) (pu j l i) (2 ^ (k + 1) - 1) ρ q = true ∧ q ≠ k ∧ x = (PL σ).getD q 0) (AGL_sub (AGM_A.mp (s1.2.2.2 ρ p7)) (fun x hx => ?_)) (fun x hx => ?_)
        · obtain ⟨q, m1, m2, rfl⟩ := hx
          obtain ⟨m3, m4⟩ := mbr_a m1
          rw [Nat.testBit_two_pow_sub_one, decide_eq_true_eq] at m3
          rw [jo q (by omega)] at m4
          exact ⟨inA_k.mpr ⟨q, by omega, rfl⟩, m4⟩
        · obtain ⟨q, m1, m2, rfl⟩ := hx
          obtain ⟨m3, m4⟩ := mbr_a m1
          rw [Nat.testBit_two_pow_sub_one, decide_eq_true_eq] at m3
          exact (jo q (by omega)).symm
      simp (disch := omega) only [↓s_Ways_lead_97, ↓s_Ways_lead_98, ↓s_Ways_lead_101, ↓s_Ways_lead_102, nI_leI, nI_ltI, nI_eq, N_z, nI_add, pk_sub, pk_mul, kL_i, kL_r, kL_d, kL_l, kL_k, kL_f, Option.toList_some, Option.toList_none, List.cons_append, List.nil_append, bI_z, N_and, N_or, N_shl, N_shr, Nat.one_mul, Nat.reduceAdd, lg_cmp_eq, L_and, L_or, bI_1, bI_0, if_true, if_false, reduceIte, N_m1x, ite_not]
      refine c_agree c2 gi2 (by rw [Nat.testBit_two_pow_sub_one]; simp) (by rw [hL, jl]; exact hρ) oth (fun g3 f3 => ?_)
      have gi3 : GI σ (PL σ) (2 ^ (k + 1) - 1) (pu j l i) g3 := by
        unfold GI at gi2 ⊢
        rw [f3 33 (by omega), f3 34 (by omega), f3 35 (by omega), f3 36 (by omega)]
        exact gi2
      have fr3 : ∀ x, x < 33 ∨ 38 ≤ x → g3 x = g1 x := fun x hx => by rw [f3 x (by omega), f2 x (by omega)]
      have c3 := CP_cg c1 (g2 := g3) (fun x _ _ => fr3 x (by omega))
      have eok : okB σ (l :: dnk (PL σ) k) l (pu j l i) = cl (AGM σ (PL σ) (pu j l i) (2 ^ (k + 1) - 1) ρ) := by
        rw [cl_cg AGM_A]
        refine cl_cg (AGL_iff (fun x => ?_))
        rw [ed, dnk_A (by omega), jl, hρ]
      have ef : f i = if okB σ (l :: dnk (PL σ) k) l (pu j l i) = true then Ws σ ((PL σ).drop (k + 1)) (l :: dnk (PL σ) k) (pu j l i) else [] := by rw [← hf]
      -- behind the turn
      have fin : ∀ (new : List (Nat → Nat)) (g5 : Nat → Nat → Int32), new = (f i).take (20000 - dn.length) → Frl g g5 → GI σ (PL σ) (2 ^ (k + 1) - 1) (pu j l i) g5 → FT σ (PL σ) k j (up2 g5 40 ρ (nI c0)) → (∀ r, r < 6 → g5 41 r = nI 0) → TC σ (dn ++ new) g5 → VD σ (dn ++ new) → RO σ (dn ++ new) (k + 1) g5 → g5 23 l = nI (mayN σ dn l) → (∀ p, p < k → g5 23 ((PL σ).getD p 0) = g 23 ((PL σ).getD p 0)) → (∀ x, x ∉ PL σ → g5 23 x = g 23 x) →
          wp X (d + m + 22 + 1) m_Ways_lead 168 [.ref 19, .int (nI k), .int (nI (stw σ j ((PL σ).take k) 0)), .int (nI (bas σ (PL σ) k + on σ l 6)), .int (nI (bas σ (PL σ) k + i)), .int (nI ρ), .int (nI dn.length), .int (nI c0)] [] (HP g5 hj) Q := by
        intro new g5 en f5 gi5 ft5 t5 tc5 vd5 ro5 m5 y5 x5
        have c5 := CP_cg c (g2 := g5) (fun x _ _ => f5.1 x (by omega))
        have c6 : CP σ (PL σ) (up2 g5 40 ρ (nI c0)) hj := CP_cg c5 (fun x _ _ => u2_r _ _ _ (by omega))
        have gi6 : GI σ (PL σ) ((2 ^ k - 1) ||| 2 ^ k) (pu j l i) (up2 g5 40 ρ (nI c0)) := by
          rw [ones_or]
          unfold GI at gi5 ⊢
          rw [u2_r _ _ _ (by omega), u2_r _ _ _ (by omega), u2_r _ _ _ (by omega), u2_r _ _ _ (by omega)]
          exact gi5
        have e25 : g5 25 k = nI l := by rw [(c5.1.2.1 k hkl).1, hL]
        have w1 := w.2.2.2.1.1
        have l12 := (PL_mem.mp hlm).1
        have lln : (dn ++ new).length ≤ 20000 := by rw [List.length_append, en, List.length_take]; omega
        have ml := may_lt (σ := σ) (l := l) dn (fun x hx => (op_ok (vd1 x hx l hlm)).1)
        simp (disch := omega) only [↓s_Ways_lead_168, ↓s_Ways_lead_169, ↓s_Ways_lead_172, ↓s_Ways_lead_175, ↓s_Ways_lead_177, ↓s_Ways_lead_179, ↓s_Ways_lead_180, ↓s_Ways_lead_181, ↓s_Ways_lead_184, ↓s_Ways_lead_185, nI_leI, nI_ltI, nI_eq, N_z, nI_add, pk_sub, pk_mul, kL_i, kL_r, kL_d, kL_l, kL_k, kL_f, Option.toList_some, Option.toList_none, List.cons_append, List.nil_append, bI_z, N_and, N_or, N_shl, N_shr, Nat.one_mul, Nat.reduceAdd, lg_cmp_eq, L_and, L_or, bI_1, bI_0, if_true, if_false, reduceIte, N_m1x, ite_not]
        refine c_leave c6 hkl haK gi6 (fun g7 f7 gi7 => ?_)
        have gi8 : GI σ (PL σ) (2 ^ k - 1) j g7 := GI_j gi7 (fun q hq => by
          rw [Nat.testBit_two_pow_sub_one, decide_eq_true_eq] at hq
          exact (jo q hq).symm)
        have e78 : g7 19 8 = nI (dn ++ new).length := by rw [f7 19 (by omega), u2_r _ _ _ (by omega)]; exact tc5.1
        have e725 : g7 25 k = nI l := by rw [f7 25 (by omega), u2_r _ _ _ (by omega)]; exact e25
        have e723 : g7 23 = g5 23 := by rw [f7 23 (by omega), u2_r _ _ _ (by omega)]
        have e7l : g7 23 l = nI (mayN σ dn l) := by rw [e723]; exact m5
        have fr7 : Frl g g7 := ⟨fun x hx => by rw [f7 x (by omega), u2_r _ _ _ (by omega)]; exact f5.1 x hx, fun x x1 x2 => by rw [f7 19 (by omega), u2_r _ _ _ (by omega)]; exact f5.2 x x1 x2⟩
        have ss7 : SS1 σ (PL σ) k j g7 := ⟨gi8, FT_cg ft5 (f7 39 (by omega)) (f7 40 (by omega)), by rw [f7 41 (by omega), u2_r _ _ _ (by omega)]; exact t5, s1.2.2.2⟩
        have tc7 : TC σ (dn ++ new) g7 := by
          unfold TC at tc5 ⊢
          rw [f7 19 (by omega), f7 21 (by omega), f7 22 (by omega), u2_r _ _ _ (by omega), u2_r _ _ _ (by omega), u2_r _ _ _ (by omega)]
          exact tc5
        have fin2 : ∀ g8 : Nat → Nat → Int32, (∀ x, x ≠ 23 → g8 x = g7 x) → (∀ x, x ≠ l → g8 23 x = g7 23 x) → g8 23 l = nI (mayN σ (dn ++ new) l) → wp X (d + m + 22 + 1) m_Ways_lead 218 [.ref 19, .int (nI k), .int (nI (stw σ j ((PL σ).take k) 0)), .int (nI (bas σ (PL σ) k + on σ l 6)), .int (nI (bas σ (PL σ) k + i)), .int (nI ρ), .int (nI dn.length), .int (nI c0)] [] (HP g8 hj) Q := by
          intro g8 q1 q2 q3
          simp (disch := omega) only [↓s_Ways_lead_218, ↓s_Ways_lead_221, nI_leI, nI_ltI, nI_eq, N_z, nI_add, pk_sub, pk_mul, kL_i, kL_r, kL_d, kL_l, kL_k, kL_f, Option.toList_some, Option.toList_none, List.cons_append, List.nil_append, bI_z, N_and, N_or, N_shl, N_shr, Nat.one_mul, Nat.reduceAdd, lg_cmp_eq, L_and, L_or, bI_1, bI_0, if_true, if_false, reduceIte, N_m1x, ite_not, Nat.add_assoc]
          refine ihn (i + 1) (dn ++ new) g8 _ _ _ (by omega) ⟨fun x hx => by rw [q1 x (by omega)]; exact fr7.1 x hx, fun x x1 x2 => by rw [q1 19 (by omega)]; exact fr7.2 x x1 x2⟩ ?_ ?_ vd5 (fun p pp1 pp2 => ?_) lln (fun p hp => ?_) (fun x hx => ?_) (fun g' a1 a2 a3 a4 a5 a6 => ?_)
          · refine ⟨?_, FT_cg ss7.2.1 (q1 39 (by omega)) (q1 40 (by omega)), by rw [q1 41 (by omega)]; exact ss7.2.2.1, ss7.2.2.2⟩
            have := ss7.1
            unfold GI at this ⊢
            rw [q1 33 (by omega), q1 34 (by omega), q1 35 (by omega), q1 36 (by omega)]
            exact this
          · unfold TC at tc7 ⊢
            rw [q1 19 (by omega), q1 21 (by omega), q1 22 (by omega)]
            exact tc7
          · by_cases e : p = k
            · subst e; rw [hL]; exact q3
            · rw [q2 _ (hlk p pp2 e), e723]; exact ro5 p (by omega) pp2
          · rw [q2 _ (hlk p (by omega) (by omega)), e723]; exact y5 p hp
          · rw [q2 x (fun e => hx (e ▸ hlm)), e723]; exact x5 x hx
          · rw [en, cap_app, ← eS] at a3 a4
            exact Kc g' a1 a2 a3 a4 a5 a6
        simp (disch := omega) only [↓s_Ways_lead_188, ↓s_Ways_lead_189, ↓s_Ways_lead_192, ↓s_Ways_lead_194, nI_leI, nI_ltI, nI_eq, N_z, nI_add, pk_sub, pk_mul, kL_i, kL_r, kL_d, kL_l, kL_k, kL_f, Option.toList_some, Option.toList_none, List.cons_append, List.nil_append, bI_z, N_and, N_or, N_shl, N_shr, Nat.one_mul, Nat.reduceAdd, lg_cmp_eq, L_and, L_or, bI_1, bI_0, if_true, if_false, reduceIte, N_m1x, ite_not, e78]
        by_cases hnew : new = []
        · rw [if_pos (by rw [hnew, List.append_nil]; exact Nat.le_refl _)]
          refine fin2 g7 (fun _ _ => rfl) (fun _ _ => rfl) ?_
          rw [hnew, List.append_nil]
          exact e7l
        · have hpos : 0 < new.length := List.length_pos_iff.mpr hnew
          rw [if_neg (by rw [List.length_append]; omega)]
          simp (disch := omega) only [↓s_Ways_lead_197, ↓s_Ways_lead_198, ↓s_Ways_lead_201, ↓s_Ways_lead_202, ↓s_Ways_lead_205, ↓s_Ways_lead_208, ↓s_Ways_lead_209, ↓s_Ways_lead_210, ↓s_Ways_lead_211, ↓s_Ways_lead_212, ↓s_Ways_lead_213, ↓s_Ways_lead_215, ↓s_Ways_lead_216, ↓s_Ways_lead_217, nI_leI, nI_ltI, nI_eq, N_z, nI_add, pk_sub, pk_mul, kL_i, kL_r, kL_d, kL_l, kL_k, kL_f, Option.toList_some, Option.toList_none, List.cons_append, List.nil_append, bI_z, N_and, N_or, N_shl, N_shr, Nat.one_mul, Nat.reduceAdd, lg_cmp_eq, L_and, L_or, bI_1, bI_0, if_true, if_false, reduceIte, N_m1x, ite_not, e725, e7l]
          refine fin2 _ (fun x hx => u2_r _ _ _ hx) (fun x hx => u2_m _ _ _ _ hx) ?_
          rw [u2_s, may_new hnew (fun x hx => ?_)]
          rw [en] at hx
          have hx2 := List.mem_of_mem_take hx
          rw [ef] at hx2
          split at hx2
          · have hv := (Ws_val _ _ _ (nd.sublist (List.drop_sublist _ _)) hx2).2 l (fun hm => by
              obtain ⟨p, _, p2', p3', p4'⟩ := (drop_F (show k + 1 ≤ (PL σ).length by omega)).mp hm
              rw [pf_tb (by omega)] at p3'
              simp at p3'
              exact hlk p p2' (by omega) p4'.symm)
            rw [hv, jl, hρ]
          · simp at hx2
      simp (disch := omega) only [↓s_Ways_lead_105, nI_leI, nI_ltI, nI_eq, N_z, nI_add, pk_sub, pk_mul, kL_i, kL_r, kL_d, kL_l, kL_k, kL_f, Option.toList_some, Option.toList_none, List.cons_append, List.nil_append, bI_z, N_and, N_or, N_shl, N_shr, Nat.one_mul, Nat.reduceAdd, lg_cmp_eq, L_and, L_or, bI_1, bI_0, if_true, if_false, reduceIte, N_m1x, ite_not]
      by_cases hag : cl (AGM σ (PL σ) (pu j l i) (2 ^ (k + 1) - 1) ρ) = true
      case neg =>
        rw [if_neg hag]
        have efn : f i = [] := by rw [ef, if_neg (by rw [eok]; exact hag)]
        refine fin [] g3 (by rw [efn, List.take_nil]) ⟨fun x hx => by rw [fr3 x (by omega)]; exact f1.1 x hx, fun x x1 x2 => by rw [fr3 19 (by omega)]; exact f1.2 x x1 x2⟩ gi3 ?_ (by rw [fr3 41 (by omega)]; exact s1.2.2.1) ?_ (by rw [List.append_nil]; exact vd1) ?_ ?_ (fun p hp => by rw [fr3 23 (by omega)]; exact y1 p hp) (fun x hx => by rw [fr3 23 (by omega)]; exact y2 x hx)
        · have : up2 g3 40 ρ (nI c0) 40 = g1 40 := by
            funext x
            by_cases e : x = ρ
            · subst e; rw [u2_s, z2]
            · rw [u2_m _ _ _ _ e, fr3 40 (by omega)]
          exact FT_cg s1.2.1 (by rw [u2_r _ _ _ (by omega), fr3 39 (by omega)]) this
        · rw [List.append_nil]
          unfold TC at t1 ⊢
          rw [fr3 19 (by omega), fr3 21 (by omega), fr3 22 (by omega)]
          exact t1
        · rw [List.append_nil]
          intro p pp1 pp2
          rw [fr3 23 (by omega)]
          exact r1 p (by omega) pp2
        · rw [fr3 23 (by omega)]
          have := r1 k (Nat.le_refl _) hkl
          rw [hL] at this
          exact this
      rw [if_pos hag]
      have efp : f i = Ws σ ((PL σ).drop (k + 1)) (dnk (PL σ) (k + 1)) (pu j l i) := by rw [ef, if_pos (by rw [eok]; exact hag), ed]
      have agm : ∀ r, r < 6 → AGM σ (PL σ) (pu j l i) (2 ^ (k + 1) - 1) r := by
        intro r hr
        by_cases e : r = ρ
        · subst e; exact cl_t.mp hag
        · exact agk r hr e
      simp (disch := omega) only [↓s_Ways_lead_108, ↓s_Ways_lead_109, ↓s_Ways_lead_112, ↓s_Ways_lead_114, ↓s_Ways_lead_115, ↓s_Ways_lead_116, ↓s_Ways_lead_117, nI_leI, nI_ltI, nI_eq, N_z, nI_add, pk_sub, pk_mul, kL_i, kL_r, kL_d, kL_l, kL_k, kL_f, Option.toList_some, Option.toList_none, List.cons_append, List.nil_append, bI_z, N_and, N_or, N_shl, N_shr, Nat.one_mul, Nat.reduceAdd, lg_cmp_eq, L_and, L_or, bI_1, bI_0, if_true, if_false, reduceIte, N_m1x, ite_not]
      generalize hF : ρ * 512 + (512 - 512 / 2 ^ (k + 1)) = F
      refine c_change hF.symm p7 (by omega) (fun g4 a1 a2 a3 a4 a5 => ?_)
      have ft4 : FT σ (PL σ) (k + 1) (pu j l i) g4 := by
        refine FT_ch (g := g3) (by omega) (FT_cg s1.2.1 (fr3 39 (by omega)) (fr3 40 (by omega))) p7 jo (by rw [hL, jl]; exact hρ) hF.symm a2 a3 a4 a5
      have fr4 : ∀ x, x < 33 ∨ x = 38 ∨ 41 ≤ x → g4 x = g1 x := fun x hx => by rw [a1 x (by omega) (by omega), fr3 x (by omega)]
      have gi4 : GI σ (PL σ) (2 ^ (k + 1) - 1) (pu j l i) g4 := by
        unfold GI at gi3 ⊢
        rw [a1 33 (by omega) (by omega), a1 34 (by omega) (by omega), a1 35 (by omega) (by omega), a1 36 (by omega) (by omega)]
        exact gi3
      have ss4 : SS1 σ (PL σ) (k + 1) (pu j l i) g4 := ⟨gi4, ft4, by rw [fr4 41 (by omega)]; exact s1.2.2.1, agm⟩
      have back : ∀ g5 : Nat → Nat → Int32, FT σ (PL σ) (k + 1) (pu j l i) g5 → FT σ (PL σ) k j (up2 g5 40 ρ (nI c0)) := fun g5 h5 => FT_back h5 jo (by rw [hL, jl]; exact hρ) ⟨z1, z3, z4⟩ (u2_s _ _ _ _) (fun x hx => u2_m _ _ _ _ hx) (u2_r _ _ _ (by omega))
      have tcx : ∀ g5 : Nat → Nat → Int32, g5 19 = g1 19 → g5 21 = g1 21 → g5 22 = g1 22 → TC σ dn g5 := by
        intro g5 b1 b2 b3
        unfold TC at t1 ⊢
        rw [b1, b2, b3]
        exact t1
      -- one place further
      have go : ∀ g5 : Nat → Nat → Int32, (∀ x, x < 33 ∨ x = 38 ∨ 42 ≤ x → g5 x = g1 x) → SS1 σ (PL σ) (k + 1) (pu j l i) g5 → wp X (d + m + 22 + 1) m_Ways_lead 150 [.ref 19, .int (nI k), .int (nI (stw σ j ((PL σ).take k) 0)), .int (nI (bas σ (PL σ) k + on σ l 6)), .int (nI (bas σ (PL σ) k + i)), .int (nI ρ), .int (nI dn.length), .int (nI c0)] [] (HP g5 hj) Q := by
        intro g5 b1 s5
        have c5 := CP_cg c1 (g2 := g5) (fun x _ _ => b1 x (by omega))
        have fr5 : Frl g g5 := ⟨fun x hx => by rw [b1 x (by omega)]; exact f1.1 x hx, fun x x1 x2 => by rw [b1 19 (by omega)]; exact f1.2 x x1 x2⟩
        have e20 : g5 20 ρ = nI (stone σ ρ) := by rw [fr5.1 20 (by omega)]; exact st ρ rR
        have sl2 := stone_lt w 6 ρ rR
        change stone σ ρ < σ 2 0 at sl2
        have esw : stw σ j ((PL σ).take k) 0 ||| 2 ^ stone σ ρ = stw σ (pu j l i) ((PL σ).take (k + 1)) 0 := by
          rw [tk_s hkl, stw_app, hL]
          show _ = stw σ (pu j l i) ((PL σ).take k) 0 ||| 2 ^ stone σ (oR σ l (pu j l i l))
          rw [jl, hρ]
          have cg : ∀ (A : List Nat) (z : Nat), (∀ x, x ∈ A → pu j l i x = j x) → stw σ (pu j l i) A z = stw σ j A z := by
            intro A
            induction A with
            | nil => intro z _; rfl
            | cons x A ihA =>
              intro z hA
              show stw σ (pu j l i) A _ = stw σ j A _
              rw [hA x List.mem_cons_self]
              exact ihA _ (fun y hy => hA y (List.mem_cons_of_mem _ hy))
          rw [cg _ 0 (fun x hx => by
            obtain ⟨p, p1', p2'⟩ := (tk_mem (by omega)).mp hx
            rw [p2']
            exact jo p p1')]
        simp (disch := omega) only [↓s_Ways_lead_150, ↓s_Ways_lead_151, ↓s_Ways_lead_152, ↓s_Ways_lead_153, ↓s_Ways_lead_154, ↓s_Ways_lead_155, ↓s_Ways_lead_156, ↓s_Ways_lead_157, ↓s_Ways_lead_160, ↓s_Ways_lead_162, ↓s_Ways_lead_163, ↓s_Ways_lead_164, ↓s_Ways_lead_165, nI_leI, nI_ltI, nI_eq, N_z, nI_add, pk_sub, pk_mul, kL_i, kL_r, kL_d, kL_l, kL_k, kL_f, Option.toList_some, Option.toList_none, List.cons_append, List.nil_append, bI_z, N_and, N_or, N_shl, N_shr, Nat.one_mul, Nat.reduceAdd, lg_cmp_eq, L_and, L_or, bI_1, bI_0, if_true, if_false, reduceIte, N_m1x, ite_not, e20, esw]
        refine ih (k + 1) (pu j l i) dn g5 d _ (by omega) c5 s5 (tcx g5 (b1 19 (by omega)) (b1 21 (by omega)) (b1 22 (by omega))) vd1 (fun p pp1 pp2 => ?_) (by omega) (fun r hr => by rw [fr5.1 20 (by omega)]; exact st r hr) (fun g6 u1 u2 u3 u4 u5 u6 => ?_)
        · rw [b1 23 (by omega)]; exact r1 p (by omega) pp2
        · rw [← efp] at u3 u4
          refine fin ((f i).take (20000 - dn.length)) g6 rfl (Frl_t fr5 u1) u2.1 (back g6 u2.2.1) u2.2.2.1 u3 ?_ u4 ?_ (fun p hp => ?_) (fun x hx => ?_)
          · intro x hx y hy
            rw [List.mem_append] at hx
            rcases hx with hx | hx
            · exact vd1 x hx y hy
            · have hx2 := List.mem_of_mem_take hx
              rw [efp] at hx2
              obtain ⟨v1, v2⟩ := Ws_val _ _ _ (nd.sublist (List.drop_sublist _ _)) hx2
              by_cases hd : y ∈ (PL σ).drop (k + 1)
              · exact v1 y hd
              · rw [v2 y hd]
                have hy2 := hy
                rw [← List.take_append_drop (k + 1) (PL σ), List.mem_append] at hy2
                rcases hy2 with hy2 | hy2
                · obtain ⟨p, q1', q2'⟩ := (tk_mem (by omega)).mp hy2
                  subst q2'
                  exact (s5.1.2.2.1 p (by rw [Nat.testBit_two_pow_sub_one]; simp [q1'])).2
                · exact absurd hy2 hd
          · have := u5 k (by omega)
            rw [hL] at this
            rw [this, b1 23 (by omega)]
            have := r1 k (Nat.le_refl _) hkl
            rw [hL] at this
            exact this
          · rw [u5 p (by omega), b1 23 (by omega)]; exact y1 p hp
          · rw [u6 x hx, b1 23 (by omega)]; exact y2 x hx
      have e40 : g4 24 2 = nI (PL σ).length := by rw [fr4 24 (by omega)]; exact c1.1.1
      have c4 := CP_cg c1 (g2 := g4) (fun x _ _ => fr4 x (by omega))
      have pw : 2 ^ (k + 1) ≤ 2 ^ (PL σ).length := pow_le (by omega)
      have pw2 : 2 ^ (PL σ).length ≤ 2 ^ 8 := pow_le hn
      simp (disch := omega) only [↓s_Ways_lead_120, ↓s_Ways_lead_121, ↓s_Ways_lead_122, ↓s_Ways_lead_123, ↓s_Ways_lead_124, ↓s_Ways_lead_127, ↓s_Ways_lead_130, nI_leI, nI_ltI, nI_eq, N_z, nI_add, pk_sub, pk_mul, kL_i, kL_r, kL_d, kL_l, kL_k, kL_f, Option.toList_some, Option.toList_none, List.cons_append, List.nil_append, bI_z, N_and, N_or, N_shl, N_shr, Nat.one_mul, Nat.reduceAdd, lg_cmp_eq, L_and, L_or, bI_1, bI_0, if_true, if_false, reduceIte, N_m1x, ite_not, e40]
      by_cases h2 : (PL σ).length ≤ k + 2
      · rw [if_pos h2]
        exact go g4 (fun x hx => fr4 x (by omega)) ss4
      rw [if_neg h2]
      simp (disch := omega) only [↓s_Ways_lead_133, ↓s_Ways_lead_134, ↓s_Ways_lead_137, ↓s_Ways_lead_138, ↓s_Ways_lead_139, ↓s_Ways_lead_140, ↓s_Ways_lead_141, ↓s_Ways_lead_144, e_Ways_placesFrom, ↓s_Ways_placesFrom_0, ↓s_Ways_placesFrom_1, ↓s_Ways_placesFrom_2, ↓s_Ways_placesFrom_5, ↓s_Ways_placesFrom_8, ↓s_Ways_placesFrom_9, ↓s_Ways_placesFrom_10, ↓s_Ways_placesFrom_11, ↓s_Ways_placesFrom_12, ↓s_Ways_placesFrom_13, nI_leI, nI_ltI, nI_eq, N_z, nI_add, pk_sub, pk_mul, kL_i, kL_r, kL_d, kL_l, kL_k, kL_f, Option.toList_some, Option.toList_none, List.cons_append, List.nil_append, bI_z, N_and, N_or, N_shl, N_shr, Nat.one_mul, Nat.reduceAdd, lg_cmp_eq, L_and, L_or, bI_1, bI_0, if_true, if_false, reduceIte, N_m1x, ite_not, e40]
      have inkk : inK (PL σ) (k + 1) (2 ^ (PL σ).length - 2 ^ (k + 1)) := by
        refine ⟨?_, fun p hp => ?_⟩
        · have : 0 < 2 ^ (k + 1) := Nat.two_pow_pos _
          omega
        · rw [pf_tb (by omega)] at hp
          simp at hp
          omega
      rw [show d + m + 22 = (d + m + 2) + 20 by omega]
      refine c_canAllFollow inkk (by omega) c4 ss4 (fun g5 b1 s5 => ?_)
      have b1' : ∀ x, x < 33 ∨ x = 38 ∨ 42 ≤ x → g5 x = g1 x := fun x hx => by rw [b1 x (by omega), fr4 x (by omega)]
      simp (disch := omega) only [↓s_Ways_lead_147, nI_leI, nI_ltI, nI_eq, N_z, nI_add, pk_sub, pk_mul, kL_i, kL_r, kL_d, kL_l, kL_k, kL_f, Option.toList_some, Option.toList_none, List.cons_append, List.nil_append, bI_z, N_and, N_or, N_shl, N_shr, Nat.one_mul, Nat.reduceAdd, lg_cmp_eq, L_and, L_or, bI_1, bI_0, if_true, if_false, reduceIte, N_m1x, ite_not]
      rw [show d + m + 2 + 20 = d + m + 22 by omega]
      by_cases hew : cl (EWk σ (PL σ) (k + 1) (2 ^ (PL σ).length - 2 ^ (k + 1)) (pu j l i)) = true
      · rw [if_pos hew]
        exact go g5 b1' s5
      · rw [if_neg hew]
        have efn : f i = [] := by
          rw [efp]
          by_cases e : Ws σ ((PL σ).drop (k + 1)) (dnk (PL σ) (k + 1)) (pu j l i) = []
          · exact e
          · exact absurd (cl_t.mpr ((no_way nd (by omega) agm (SS_R s5.1)).mp e)) hew
        refine fin [] g5 (by rw [efn, List.take_nil]) ⟨fun x hx => by rw [b1' x (by omega)]; exact f1.1 x hx, fun x x1 x2 => by rw [b1' 19 (by omega)]; exact f1.2 x x1 x2⟩ s5.1 (back g5 s5.2.1) s5.2.2.1 ?_ (by rw [List.append_nil]; exact vd1) ?_ ?_ (fun p hp => by rw [b1' 23 (by omega)]; exact y1 p hp) (fun x hx => by rw [b1' 23 (by omega)]; exact y2 x hx)
        · rw [List.append_nil]
          exact tcx g5 (b1' 19 (by omega)) (b1' 21 (by omega)) (b1' 22 (by omega))
        · rw [List.append_nil]
          intro p pp1 pp2
          rw [b1' 23 (by omega)]
          exact r1 p (by omega) pp2
        · rw [b1' 23 (by omega)]
          have := r1 k (Nat.le_refl _) hkl
          rw [hL] at this
          exact this
  have := loop (on σ l 6) 0 dn g DUM DUM DUM (by omega) ⟨fun _ _ => rfl, fun _ _ _ => rfl⟩ ss tc vd ro (by omega) (fun _ _ => rfl) (fun _ _ => rfl) Kc
  exact this
theorem lead_all : ∀ m, LDk X hj σ m
  | 0 => lead_0
  | m + 1 => lead_s (lead_all m)
end LEAD
