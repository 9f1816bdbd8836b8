section WORKS
variable {X : AX} {d : Nat} {Q : Option Value → AH → Prop} {g0 : Nat → Nat → Int32} {hj : Nat → Nat → Int64} {σ τ : ST} {Ls : List Nat} {T : List (Nat → Nat) → (Nat → Nat → Int32) → Prop} {most : Nat} {s1 a1 : Int32} {t : Nat → Nat} {n : Nat}
theorem goes_all (hm : most ≤ 20000) (o : OB σ Ls g0 hj) (hF : ∀ dn g g', T dn g → (∀ k, k ≠ 72 → (k < 74 ∨ 77 ≤ k) → g' k = g k) → T dn g') (ty : TY X d Q g0 hj σ Ls T most s1 a1) : ∀ m, VG X d Q g0 hj σ Ls T most s1 a1 m
  | 0 => goes_0 hm o ty
  | m + 1 => goes_s hm o hF (goes_all hm o hF ty m)
theorem goes_top (hm : most ≤ 20000) (h0 : 0 < most) (o : OB σ Ls g0 hj) (hF : ∀ dn g g', T dn g → (∀ k, k ≠ 72 → (k < 74 ∨ 77 ≤ k) → g' k = g k) → T dn g') (ty : TY X d Q g0 hj σ Ls T most s1 a1) (t0 : T [] g0) {v7 : Value}
    (Kc : ∀ g', BS g0 g' → T ((Ws σ Ls [] (fun _ => 0)).take most) g' → Q (some (.int (nI ((Ws σ Ls [] (fun _ => 0)).take most).length))) (HP g' hj)) :
    wp X (d + 2) m_M_goes 62 [.ref 51, .int s1, .int (nI most), .int a1, .int (nI 0), .int (nI 0), .int (nI 1), v7] [] (HP g0 hj) Q := by
  have v := goes_all (X := X) (d := d) hm o hF ty Ls.length 0 (fun _ => 0) [] g0 v7 (by omega) ⟨fun _ _ _ _ => rfl, fun _ _ _ => rfl⟩ (fun p hp => by omega) t0 h0
  refine v (fun g' v7 b c t hl => ?_) (fun g' b t hl => ?_)
  · change T (Ws σ Ls [] (fun _ => 0)) g' at t
    change (Ws σ Ls [] (fun _ => 0)).length < most at hl
    have hz : nI 0 + (-1 : Int32) < 0 := by decide
    rw [s_M_goes_62]
    simp only [↓s_M_goes_64, ↓s_M_goes_204, ↓s_M_goes_206, hz, if_true]
    have e : (Ws σ Ls [] (fun _ => 0)).take most = Ws σ Ls [] (fun _ => 0) := List.take_of_length_le (by omega)
    rw [e] at Kc
    exact Kc g' b t
  · change T ((Ws σ Ls [] (fun _ => 0)).take most) g' at t
    change most ≤ (Ws σ Ls [] (fun _ => 0)).length at hl
    have := Kc g' b t
    rw [List.length_take, Nat.min_eq_left hl] at this
    exact this
theorem l_M_goesO {s : Nat} {v5 v6 v7 : Value} (c : M0 σ g0 hj) (hs : s < 65536) (Kc : ∀ g v4, (∀ k, k ≠ 51 → k ≠ 73 → g k = g0 k) → (∀ i, i ≠ 30 → g 51 i = g0 51 i) → g 51 30 = nI (sl s (σ 11 0)).length → (∀ p, p < (sl s (σ 11 0)).length → g 73 p = nI ((sl s (σ 11 0)).getD p 0)) → wp X (d + 2) m_M_goes 53 [.ref 51, .int (nI s), .int (nI most), .int a1, v4, v5, v6, v7] [] (HP g hj) Q) :
    ∀ (m l : Nat) (g : Nat → Nat → Int32), l + m = σ 11 0 → (∀ k, k ≠ 51 → k ≠ 73 → g k = g0 k) → (∀ i, i ≠ 30 → g 51 i = g0 51 i) → g 51 30 = nI (sl s l).length → (∀ p, p < (sl s l).length → g 73 p = nI ((sl s l).getD p 0)) →
    wp X (d + 2) m_M_goes 8 [.ref 51, .int (nI s), .int (nI most), .int a1, .int (nI l), v5, v6, v7] [] (HP g hj) Q
  | 0, l, g, hl, e1, e2, e3, e4 => by
    have w := c.1.2.2.2.1.1
    have e0 : g 51 14 = nI (σ 11 0) := by rw [e2 _ (by omega)]; exact c.2.2.2.1
    have : l = σ 11 0 := by omega
    subst this
    rw [s_M_goes_8]
    simp (disch := omega) only [↓s_M_goes_10, ↓s_M_goes_11, ↓s_M_goes_14, nI_leI, nI_ltI, nI_eq, N_z, nI_add, pk_sub, pk_mul, kL_i, kL_r, kL_d, kL_l, kL_k, kL_f, Option.toList_some, Option.toList_none, List.cons_append, List.nil_append, bI_z, N_and, N_or, N_shl, N_shr, Nat.one_mul, Nat.reduceAdd, lg_cmp_eq, L_and, L_or, bI_1, bI_0, if_true, if_false, reduceIte, N_m1x, ite_not, e0, Nat.le_refl]
    exact Kc g _ e1 e2 e3 e4
  | m + 1, l, g, hl, e1, e2, e3, e4 => by
    have w := c.1.2.2.2.1.1
    have e0 : g 51 14 = nI (σ 11 0) := by rw [e2 _ (by omega)]; exact c.2.2.2.1
    have sln := sl_len (s := s) l
    have e : sl s (l + 1) = if s.testBit l = true then sl s l ++ [l] else sl s l := rfl
    rw [s_M_goes_8]
    simp (disch := omega) only [↓s_M_goes_10, ↓s_M_goes_11, ↓s_M_goes_14, ↓s_M_goes_17, ↓s_M_goes_18, ↓s_M_goes_20, ↓s_M_goes_23, ↓s_M_goes_26, ↓s_M_goes_27, ↓s_M_goes_30, ↓s_M_goes_31, ↓s_M_goes_34, ↓s_M_goes_36, ↓s_M_goes_37, ↓s_M_goes_38, ↓s_M_goes_39, ↓s_M_goes_42, ↓s_M_goes_43, ↓s_M_goes_44, ↓s_M_goes_47, ↓s_M_goes_50, nI_leI, nI_ltI, nI_eq, N_z, nI_add, pk_sub, pk_mul, kL_i, kL_r, kL_d, kL_l, kL_k, kL_f, Option.toList_some, Option.toList_none, List.cons_append, List.nil_append, bI_z, N_and, N_or, N_shl, N_shr, Nat.one_mul, Nat.reduceAdd, lg_cmp_eq, L_and, L_or, bI_1, bI_0, if_true, if_false, reduceIte, N_m1x, ite_not, e0, c_M_has, e3, u2_s, u2_n, u2_m]
    rw [if_neg (by omega)]
    by_cases h1 : s.testBit l = true
    · rw [if_pos h1] at e ⊢
      have el : (sl s l).length + 1 = (sl s (l + 1)).length := by rw [e, List.length_append]; rfl
      refine l_M_goesO c hs Kc m (l + 1) _ (by omega) (fun k k1 k2 => ?_) (fun i hi => ?_) ?_ (fun p hp => ?_)
      · rw [u2_r _ _ _ k1, u2_r _ _ _ k2]; exact e1 k k1 k2
      · rw [u2_m _ _ _ _ hi, u2_n _ _ _ _ (by omega)]; exact e2 i hi
      · rw [u2_s, el]
      · rw [u2_n _ _ _ _ (by omega), e]
        rw [← el] at hp
        by_cases ep : p = (sl s l).length
        · subst ep; rw [u2_s, gD_r]
        · rw [u2_m _ _ _ _ ep, gD_l (by omega)]; exact e4 p (by omega)
    · rw [if_neg h1] at e ⊢
      rw [← e] at e3 e4
      exact l_M_goesO c hs Kc m (l + 1) g (by omega) e1 e2 e3 e4
theorem rdOp_cg {g g2 : Nat → Nat → Int32} {hj2 : Nat → Nat → Int64} (h : rdOp g hj σ) (e : ∀ k, 66 ≤ k → k ≤ 70 → g2 k = g k) (e2 : hj2 71 = hj 71) : rdOp g2 hj2 σ := by
  unfold rdOp at h ⊢
  rw [e 66 (by omega) (by omega), e 67 (by omega) (by omega), e 68 (by omega) (by omega), e 69 (by omega) (by omega), e 70 (by omega) (by omega), e2]
  exact h
theorem OB_of {s : Nat} {g : Nat → Nat → Int32} (c : M0 σ g0 hj) (ro : rdOp g0 hj σ) (e1 : ∀ k, k ≠ 51 → k ≠ 73 → g k = g0 k) (e2 : ∀ i, i ≠ 30 → g 51 i = g0 51 i) (e3 : g 51 30 = nI (sl s (σ 11 0)).length) (e4 : ∀ p, p < (sl s (σ 11 0)).length → g 73 p = nI ((sl s (σ 11 0)).getD p 0)) : OB σ (sl s (σ 11 0)) g hj :=
  ⟨M0_cg c (e2 _ (by omega)) (e2 _ (by omega)) (e2 _ (by omega)) (e2 _ (by omega)) (fun k _ _ => e1 k (by omega) (by omega)), rdOp_cg ro (fun k _ _ => e1 k (by omega) (by omega)) rfl, e4, e3, sl_nd _, fun l hl => ((sl_mem _).mp hl).1, Nat.le_trans (sl_len _) c.1.2.2.2.1.1⟩
theorem sl_pl (w : σ 11 0 ≤ 12) : ∀ m, m ≤ σ 11 0 → sl (prs σ) m = pl σ m
  | 0, _ => rfl
  | m + 1, hm => by
    unfold sl pl
    rw [sl_pl w m (by omega), prs_tb (by omega) w]
    cases (σ 18 0).testBit m <;> simp
theorem len_prs (w : σ 11 0 ≤ 12) : ∀ m, m ≤ σ 11 0 → pcn (prs σ) m = (pl σ m).length
  | 0, _ => rfl
  | m + 1, hm => by
    unfold pcn pl
    rw [len_prs w m (by omega), dm_tb, prs_tb (by omega) w]
    cases (σ 18 0).testBit m <;> simp
theorem pcn_up {a k : Nat} (h : a < 2 ^ k) : ∀ m, pcn a (k + m) = pcn a k
  | 0 => rfl
  | m + 1 => by
    rw [← Nat.add_assoc]
    show pcn a (k + m) + _ = _
    rw [pcn_up h m, dm_tb, lt_tb h (by omega)]
    simp
theorem len_PL (w : σ 11 0 ≤ 12) : pcn (prs σ) 16 = (PL σ).length := by
  have h := pcn_up (prs_lt σ) (16 - σ 11 0)
  rw [show σ 11 0 + (16 - σ 11 0) = 16 by omega, len_prs w _ (Nat.le_refl _)] at h
  exact h
/-- the tally with what it comes to -/
def T1 (σ : ST) (dn : List (Nat → Nat)) (g : Nat → Nat → Int32) : Prop := TI σ dn g ∧ ∀ w, w ∈ dn → ∀ l, l ∈ PL σ → w l < on σ l 6
theorem T1_F (dn : List (Nat → Nat)) (g g' : Nat → Nat → Int32) (h : T1 σ dn g) (e : ∀ k, k ≠ 72 → (k < 74 ∨ 77 ≤ k) → g' k = g k) : T1 σ dn g' := by
  unfold T1 TI at h ⊢
  rw [e 51 (by omega) (by omega), e 77 (by omega) (by omega), e 78 (by omega) (by omega)]
  exact h
theorem ty_1 (o : OB σ (PL σ) g0 hj) : TY X d Q g0 hj σ (PL σ) (T1 σ) 20000 s1 (nI 1) := by
  intro dn j g v7 b c t hl K
  obtain ⟨⟨t1, t2, t3, t4⟩, t5⟩ := t
  have hjl : ∀ l, l ∈ PL σ → j l < on σ l 6 := by
    intro l hl
    obtain ⟨p, hp, e⟩ := List.getElem_of_mem hl
    have := (c p hp).2
    rw [List.getD_eq_getElem?_getD, List.getElem?_eq_getElem hp] at this
    change j ((PL σ)[p]) < on σ ((PL σ)[p]) 6 at this
    rw [e] at this
    exact this
  have b2 : BS g0 (up2 g 51 34 (nI (dn.length + 1))) := ⟨fun k h1 h2 h3 => by rw [u2_r _ _ _ h1]; exact b.1 k h1 h2 h3, fun i h1 h2 => by rw [u2_m _ _ _ _ h1]; exact b.2 i h1 h2⟩
  have c2 : CHS σ (PL σ) (up2 g 51 34 (nI (dn.length + 1))) j (PL σ).length := fun p hp => by rw [u2_n _ _ _ _ (by omega)]; exact c p hp
  simp (disch := omega) only [↓s_M_goes_82, ↓s_M_goes_85, ↓s_M_goes_86, ↓s_M_goes_88, ↓s_M_goes_91, ↓s_M_goes_92, ↓s_M_goes_95, ↓s_M_goes_96, nI_leI, nI_ltI, nI_eq, N_z, nI_add, pk_sub, pk_mul, kL_i, kL_r, kL_d, kL_l, kL_k, kL_f, Option.toList_some, Option.toList_none, List.cons_append, List.nil_append, bI_z, N_and, N_or, N_shl, N_shr, Nat.one_mul, Nat.reduceAdd, lg_cmp_eq, L_and, L_or, bI_1, bI_0, if_true, if_false, reduceIte, N_m1x, ite_not, Nat.one_ne_zero, Nat.zero_ne_one, eq_self, not_true_eq_false, not_false_eq_true]
  have m0 : M0 σ (up2 g 51 34 (nI (dn.length + 1))) hj := M0_cg o.1 (b2.2 _ (by omega) (by omega)) (b2.2 _ (by omega) (by omega)) (b2.2 _ (by omega) (by omega)) (b2.2 _ (by omega) (by omega)) (fun k _ _ => b2.1 k (by omega) (by omega) (by omega))
  refine c_M_tallies (j := j) (dn := dn) m0 (fun h => AP_of o b2 (by rw [show (PL σ).length - 1 + 1 = (PL σ).length by omega]; exact c2) (by omega)) ?_ (by omega) t5 hjl (u2_s _ _ _ _) (fun hne => ⟨by rw [u2_m _ _ _ _ (by omega)]; exact (t2 hne).1, by rw [u2_r _ _ _ (by omega)]; exact (t2 hne).2⟩) (by rw [u2_r _ _ _ (by omega)]; exact t3) (by rw [u2_r _ _ _ (by omega)]; exact t4) (fun g3 f1 f2 f3 => ?_)
  · rw [b2.2 _ (by omega) (by omega)]; exact o.2.2.2.1
  · refine K g3 ⟨fun k h1 h2 h3 => ?_, fun i h1 h2 => ?_⟩ (fun p hp => ?_) ⟨f3, fun w hw l hl => ?_⟩
    · rw [f1 k (by omega) h1]; exact b2.1 k h1 h2 h3
    · rw [f2 i h2]; exact b2.2 i h1 h2
    · rw [f1 72 (by omega) (by omega)]; exact c2 p hp
    · rw [List.mem_append, List.mem_singleton] at hw
      rcases hw with hw | rfl
      · exact t5 w hw l hl
      · exact hjl l hl
theorem c_M_goes1 (c : M0 σ g0 hj) (ro : rdOp g0 hj σ) (t0 : ∀ l, l < σ 11 0 → g0 78 l = nI 0) (t34 : g0 51 34 = nI 0) (Kc : ∀ g, (∀ k, k ≠ 51 → (k < 72 ∨ 79 ≤ k) → g k = g0 k) → (∀ i, i ≠ 30 → i ≠ 34 → i ≠ 35 → g 51 i = g0 51 i) → T1 σ (wyl σ) g → Q (some (.int (nI (wyl σ).length))) (HP g hj)) : cwp X (d + 2) m_M_goes [.ref 51, .int (nI (prs σ)), .int (nI 20000), .int (nI 1)] (HP g0 hj) Q := by
  have w := c.1.2.2.2.1.1
  have hp : prs σ < 65536 := Nat.lt_of_lt_of_le (prs_lt σ) (pow_le (show σ 11 0 ≤ 16 by omega))
  simp only [e_M_goes, ↓s_M_goes_0, ↓s_M_goes_1, ↓s_M_goes_2, ↓s_M_goes_5, ↓s_M_goes_6, kL_i]
  refine l_M_goesO c hp (fun g v4 e1 e2 e3 e4 => ?_) (σ 11 0) 0 _ (by omega) (fun k k1 k2 => u2_r _ _ _ k1) (fun i hi => u2_m _ _ _ _ hi) (u2_s _ _ _ _) (fun p hp => by simp [sl] at hp)
  have o := OB_of c ro e1 e2 e3 e4
  rw [sl_pl w _ (Nat.le_refl _)] at o
  simp only [↓s_M_goes_53, ↓s_M_goes_54, ↓s_M_goes_56, ↓s_M_goes_57, ↓s_M_goes_59, ↓s_M_goes_60, kL_i]
  refine goes_top (T := T1 σ) (Nat.le_refl _) (by omega) o T1_F (ty_1 o) ⟨⟨by rw [e2 _ (by omega), t34]; rfl, fun h => absurd rfl h, fun l hl => ?_, fun l h1 h2 => ?_⟩, fun w hw => by simp at hw⟩ (fun g' b t => Kc g' (fun k k1 k2 => ?_) (fun i i1 i2 i3 => ?_) t)
  · rw [e1 78 (by omega) (by omega)]; exact t0 l (PL_mem.mp hl).1
  · rw [e1 78 (by omega) (by omega)]; exact t0 l h1
  · rw [b.1 k k1 (by omega) (by omega), e1 k k1 (by omega)]
  · rw [b.2 i i2 i3, e2 i i1]
/-- whether there is a way of a set of lumps -/
theorem c_M_goes0 {s : Nat} (c : M0 σ g0 hj) (ro : rdOp g0 hj σ) (hs : s < 65536) (Kc : ∀ g, (∀ k, k ≠ 51 → (k < 72 ∨ 77 ≤ k) → g k = g0 k) → (∀ i, i ≠ 30 → i ≠ 34 → g 51 i = g0 51 i) → Q (some (.int (nI (if Ws σ (sl s (σ 11 0)) [] (fun _ => 0) = [] then 0 else 1)))) (HP g hj)) : cwp X (d + 2) m_M_goes [.ref 51, .int (nI s), .int (nI 1), .int (nI 0)] (HP g0 hj) Q := by
  simp only [e_M_goes, ↓s_M_goes_0, ↓s_M_goes_1, ↓s_M_goes_2, ↓s_M_goes_5, ↓s_M_goes_6, kL_i]
  refine l_M_goesO c hs (fun g v4 e1 e2 e3 e4 => ?_) (σ 11 0) 0 _ (by omega) (fun k k1 k2 => u2_r _ _ _ k1) (fun i hi => u2_m _ _ _ _ hi) (u2_s _ _ _ _) (fun p hp => by simp [sl] at hp)
  have o := OB_of c ro e1 e2 e3 e4
  simp only [↓s_M_goes_53, ↓s_M_goes_54, ↓s_M_goes_56, ↓s_M_goes_57, ↓s_M_goes_59, ↓s_M_goes_60, kL_i]
  refine goes_top (T := fun _ g' => g' 77 = g 77 ∧ g' 78 = g 78 ∧ g' 51 35 = g 51 35) (by omega) (by omega) o (fun dn g2 g3 t f => ?_) ?_ ⟨rfl, rfl, rfl⟩ (fun g' b t => ?_)
  · rw [f 77 (by omega) (by omega), f 78 (by omega) (by omega), f 51 (by omega) (by omega)]
    exact t
  · intro dn j g2 v7 b2 c2 t2 hl K
    simp (disch := omega) only [↓s_M_goes_82, ↓s_M_goes_85, ↓s_M_goes_86, ↓s_M_goes_88, ↓s_M_goes_91, ↓s_M_goes_92, nI_leI, nI_ltI, nI_eq, N_z, nI_add, pk_sub, pk_mul, kL_i, kL_r, kL_d, kL_l, kL_k, kL_f, Option.toList_some, Option.toList_none, List.cons_append, List.nil_append, bI_z, N_and, N_or, N_shl, N_shr, Nat.one_mul, Nat.reduceAdd, lg_cmp_eq, L_and, L_or, bI_1, bI_0, if_true, if_false, reduceIte, N_m1x, ite_not, Nat.one_ne_zero, Nat.zero_ne_one, eq_self, not_true_eq_false, not_false_eq_true]
    refine K _ ⟨fun k h1 h2 h3 => ?_, fun i h1 h2 => ?_⟩ (fun p hp => ?_) ⟨?_, ?_, ?_⟩
    · rw [u2_r _ _ _ h1]; exact b2.1 k h1 h2 h3
    · rw [u2_m _ _ _ _ h1]; exact b2.2 i h1 h2
    · rw [u2_n _ _ _ _ (by omega)]; exact c2 p hp
    · rw [u2_r _ _ _ (by omega)]; exact t2.1
    · rw [u2_r _ _ _ (by omega)]; exact t2.2.1
    · rw [u2_m _ _ _ _ (by omega)]; exact t2.2.2
  · have hl : ((Ws σ (sl s (σ 11 0)) [] (fun _ => 0)).take 1).length = if Ws σ (sl s (σ 11 0)) [] (fun _ => 0) = [] then 0 else 1 := by
      cases Ws σ (sl s (σ 11 0)) [] (fun _ => 0) with
      | nil => rfl
      | cons x y => simp
    rw [hl]
    refine Kc g' (fun k k1 k2 => ?_) (fun i i1 i2 => ?_)
    · by_cases h77 : k = 77
      · subst h77; rw [t.1, e1 77 (by omega) (by omega)]
      · by_cases h78 : k = 78
        · subst h78; rw [t.2.1, e1 78 (by omega) (by omega)]
        · rw [b.1 k k1 (by omega) (by omega), e1 k k1 (by omega)]
    · by_cases h35 : i = 35
      · subst h35; rw [t.2.2, e2 35 (by omega)]
      · rw [b.2 i i2 h35, e2 i i1]
end WORKS
