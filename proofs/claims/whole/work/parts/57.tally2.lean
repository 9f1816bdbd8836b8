section TALLY2
variable {X : AX} {d : Nat} {Q : Option Value → AH → Prop} {g0 : Nat → Nat → Int32} {hj : Nat → Nat → Int64} {σ : ST} {j : Nat → Nat}
theorem bb_le (σ : ST) (ws : List (Nat → Nat)) : (bb σ ws).1 ≤ 7 := by
  unfold bb
  suffices h : ∀ (ws : List (Nat → Nat)) (s : Nat × (Nat → Nat)), s.1 ≤ 7 → (ws.foldl (fun s w => if cnt σ w < s.1 then (cnt σ w, w) else s) s).1 ≤ 7 by
    exact h ws _ (Nat.le_refl 7)
  intro ws
  induction ws with
  | nil => intro s h; exact h
  | cons w ws ih =>
    intro s h
    apply ih
    dsimp only
    split
    · show cnt σ w ≤ 7
      omega
    · exact h
theorem AP_cg2 {g g2 : Nat → Nat → Int32} {Ls : List Nat} {u : Nat} (h : AP σ g hj Ls j u) (e : ∀ k, k ≤ 73 → k ≠ 51 → g2 k = g k) (e2 : ∀ i, i ≤ 29 → g2 51 i = g 51 i) : AP σ g2 hj Ls j u := by
  obtain ⟨h1, h2, h3, h4, h5⟩ := h
  refine ⟨M0_cg h1 (e2 _ (by omega)) (e2 _ (by omega)) (e2 _ (by omega)) (e2 _ (by omega)) (fun k _ _ => e k (by omega) (by omega)), ?_, ?_, ?_, h5⟩
  · unfold rdOp at h2 ⊢
    rw [e 66 (by omega) (by omega), e 67 (by omega) (by omega), e 68 (by omega) (by omega), e 69 (by omega) (by omega), e 70 (by omega) (by omega)]
    exact h2
  · rw [e 73 (by omega) (by omega)]; exact h3
  · rw [e 72 (by omega) (by omega)]; exact h4
theorem c_M_tallies {dn : List (Nat → Nat)} (m0 : M0 σ g0 hj) (hA : 0 < (PL σ).length → AP σ g0 hj (PL σ) j ((PL σ).length - 1)) (ho : g0 51 30 = nI (PL σ).length) (hl : dn.length < 100000) (hdn : ∀ w, w ∈ dn → ∀ l, l ∈ PL σ → w l < on σ l 6) (hj1 : ∀ l, l ∈ PL σ → j l < on σ l 6) (hw : g0 51 34 = nI (dn.length + 1))
    (t1 : dn ≠ [] → g0 51 35 = nI (bb σ dn).1 ∧ ∀ l, l ∈ PL σ → g0 77 l = nI (24 * l + (bb σ dn).2 l)) (t2 : ∀ l, l ∈ PL σ → g0 78 l = nI (mayN σ dn l)) (t3 : ∀ l, l < σ 11 0 → l ∉ PL σ → g0 78 l = nI 0)
    (Kc : ∀ g, (∀ k, k ≤ 76 ∨ 79 ≤ k → k ≠ 51 → g k = g0 k) → (∀ i, i ≠ 35 → g 51 i = g0 51 i) → TI σ (dn ++ [j]) g → Q none (HP g hj)) : cwp X (d + 1) m_M_tallies [.ref 51] (HP g0 hj) Q := by
  have w := m0.1
  have w1 := w.2.2.2.1.1
  have hlen : (PL σ).length ≤ 12 := Nat.le_trans (pl_len _) w1
  have hst : ∀ l, l ∈ PL σ → stone σ (oR σ l (j l)) < 6 := fun l hl => st_ok w (hj1 l hl)
  have hs := stw_lt (PL σ) 0 (by omega) hst
  have hc := cnt_lt hst
  have hc0 : pcn (stw σ j (PL σ) 0) 16 = cnt σ j := rfl
  have hb := bb_le σ dn
  have hlapp : (dn ++ [j]).length = dn.length + 1 := by rw [List.length_append]; rfl
  have fin : ∀ g v3, (∀ k, k ≤ 77 ∨ 79 ≤ k → g k = g0 k) → (∀ l, l ∈ PL σ → g 78 l = nI (mayN σ dn l ||| 2 ^ oR σ l (j l))) → (∀ l, l ∉ PL σ → g 78 l = g0 78 l) → wp X (d + 1) m_M_tallies 62 [.ref 51, .int (nI (stw σ j (PL σ) 0)), .int (nI (PL σ).length), v3] [] (HP g hj) Q := by
    intro g v3 e1 e2 e3
    have q1 : g 51 34 = nI (dn.length + 1) := by rw [e1 51 (by omega)]; exact hw
    have q3 : g 51 30 = nI (PL σ).length := by rw [e1 51 (by omega)]; exact ho
    simp (disch := omega) only [↓s_M_tallies_62, ↓s_M_tallies_63, ↓s_M_tallies_66, ↓s_M_tallies_67, ↓s_M_tallies_68, ↓s_M_tallies_71, ↓s_M_tallies_72, nI_leI, nI_ltI, nI_eq, N_z, nI_add, pk_sub, pk_mul, kL_i, kL_r, kL_d, kL_l, kL_k, kL_f, Option.toList_some, Option.toList_none, List.cons_append, List.nil_append, bI_z, N_and, N_or, N_shl, N_shr, Nat.one_mul, Nat.reduceAdd, lg_cmp_eq, L_and, L_or, bI_1, bI_0, if_true, if_false, reduceIte, N_m1x, ite_not, c_M_onesOf, hc0, q1]
    have t3' : ∀ l, l < σ 11 0 → l ∉ PL σ → g 78 l = nI 0 := fun l h1 h2 => by rw [e3 l h2]; exact t3 l h1 h2
    have up : cnt σ j < (bb σ dn).1 → wp X (d + 1) m_M_tallies 83 [.ref 51, .int (nI (stw σ j (PL σ) 0)), .int (nI (cnt σ j)), v3] [] (HP g hj) Q := by
      intro h1
      have e5 := bb_app σ dn j
      rw [if_pos h1] at e5
      simp (disch := omega) only [↓s_M_tallies_83, ↓s_M_tallies_84, ↓s_M_tallies_85, ↓s_M_tallies_88, ↓s_M_tallies_89, nI_leI, nI_ltI, nI_eq, N_z, nI_add, pk_sub, pk_mul, kL_i, kL_r, kL_d, kL_l, kL_k, kL_f, Option.toList_some, Option.toList_none, List.cons_append, List.nil_append, bI_z, N_and, N_or, N_shl, N_shr, Nat.one_mul, Nat.reduceAdd, lg_cmp_eq, L_and, L_or, bI_1, bI_0, if_true, if_false, reduceIte, N_m1x, ite_not]
      have last : ∀ g', (∀ k, k ≤ 76 ∨ 78 ≤ k → g' k = up2 g 51 35 (nI (cnt σ j)) k) → (∀ l, l ∈ PL σ → g' 77 l = nI (24 * l + j l)) → Q none (HP g' hj) := by
        intro g' f1 f2
        have h51 := f1 51 (by omega)
        refine Kc g' (fun k hk hk2 => ?_) (fun i hi => ?_) ⟨?_, fun _ => ⟨?_, ?_⟩, ?_, ?_⟩
        · rw [f1 k (by omega), u2_r _ _ _ hk2, e1 k (by omega)]
        · rw [h51, u2_m _ _ _ _ hi, e1 51 (by omega)]
        · rw [h51, u2_m _ _ _ _ (by omega), q1, hlapp]
        · rw [h51, u2_s, e5]
        · intro l hl; rw [f2 l hl, e5]
        · intro l hl; rw [f1 78 (by omega), u2_r _ _ _ (by omega), e2 l hl, may_app]
        · intro l h1 h2; rw [f1 78 (by omega), u2_r _ _ _ (by omega)]; exact t3' l h1 h2
      by_cases h0 : 0 < (PL σ).length
      · have a := AP_cg2 (hA h0) (g2 := up2 g 51 35 (nI (cnt σ j))) (fun k hk hk2 => by rw [u2_r _ _ _ hk2, e1 k (by omega)]) (fun i hi => by rw [u2_m _ _ _ _ (by omega), e1 51 (by omega)])
        exact l_M_tallies2 (Ls := PL σ) rfl h0 a (by rw [u2_m _ _ _ _ (by omega)]; exact q3) last (PL σ).length 0 _ (by omega) (fun _ _ => rfl) (fun l hl => by simp at hl)
      · have h0' : (PL σ).length = 0 := by omega
        have q4 : up2 g 51 35 (nI (cnt σ j)) 51 30 = nI 0 := by rw [u2_m _ _ _ _ (by omega), q3, h0']
        rw [s_M_tallies_90]
        simp (disch := omega) only [↓s_M_tallies_91, ↓s_M_tallies_92, ↓s_M_tallies_95, ↓s_M_tallies_126, nI_leI, nI_ltI, nI_eq, N_z, nI_add, pk_sub, pk_mul, kL_i, kL_r, kL_d, kL_l, kL_k, kL_f, Option.toList_some, Option.toList_none, List.cons_append, List.nil_append, bI_z, N_and, N_or, N_shl, N_shr, Nat.one_mul, Nat.reduceAdd, lg_cmp_eq, L_and, L_or, bI_1, bI_0, if_true, if_false, reduceIte, N_m1x, ite_not, q4, Nat.le_refl]
        refine last _ (fun _ _ => rfl) (fun l hl => ?_)
        rw [List.length_eq_zero_iff.mp h0'] at hl
        simp at hl
    have st : ¬ cnt σ j < (bb σ dn).1 → dn ≠ [] → Q none (HP g hj) := by
      intro h1 h2
      have e5 := bb_app σ dn j
      rw [if_neg h1] at e5
      obtain ⟨b1, b2⟩ := t1 h2
      refine Kc g (fun k hk hk2 => e1 k (by omega)) (fun i hi => by rw [e1 51 (by omega)]) ⟨by rw [q1, hlapp], fun _ => ⟨?_, ?_⟩, ?_, t3'⟩
      · rw [e1 51 (by omega), b1, e5]
      · intro l hl; rw [e1 77 (by omega), b2 l hl, e5]
      · intro l hl; rw [e2 l hl, may_app]
    by_cases h2 : dn = []
    · subst h2
      rw [if_pos (by simp)]
      exact up (by show cnt σ j < 7; exact hc)
    · have h3 : dn.length ≠ 0 := fun e => h2 (List.length_eq_zero_iff.mp e)
      rw [if_neg (by omega)]
      have q2 : g 51 35 = nI (bb σ dn).1 := by rw [e1 51 (by omega)]; exact (t1 h2).1
      simp (disch := omega) only [↓s_M_tallies_75, ↓s_M_tallies_76, ↓s_M_tallies_77, ↓s_M_tallies_80, ↓s_M_tallies_126, nI_leI, nI_ltI, nI_eq, N_z, nI_add, pk_sub, pk_mul, kL_i, kL_r, kL_d, kL_l, kL_k, kL_f, Option.toList_some, Option.toList_none, List.cons_append, List.nil_append, bI_z, N_and, N_or, N_shl, N_shr, Nat.one_mul, Nat.reduceAdd, lg_cmp_eq, L_and, L_or, bI_1, bI_0, if_true, if_false, reduceIte, N_m1x, ite_not, q2]
      by_cases h4 : cnt σ j < (bb σ dn).1
      · rw [if_neg (by omega)]
        exact up h4
      · rw [if_pos (by omega)]
        exact st h4 h2
  simp only [e_M_tallies, ↓s_M_tallies_0, ↓s_M_tallies_1, ↓s_M_tallies_2, ↓s_M_tallies_3, kL_i, kL_d, kL_r]
  by_cases h0 : 0 < (PL σ).length
  · refine l_M_tallies1 (Ls := PL σ) (m0 := fun l => mayN σ dn l) rfl h0 (hA h0) ho (fun l hl => ⟨t2 l hl, may_lt dn (fun w hw => (op_ok (hdn w hw l hl)).1)⟩) fin (PL σ).length 0 g0 _ (by omega) (fun _ _ => rfl) (fun l hl => by simp at hl) (fun _ _ => rfl)
  · have h0' : (PL σ).length = 0 := by omega
    have hE := List.length_eq_zero_iff.mp h0'
    have q4 : g0 51 30 = nI 0 := by rw [ho, h0']
    rw [s_M_tallies_4]
    simp (disch := omega) only [↓s_M_tallies_5, ↓s_M_tallies_6, ↓s_M_tallies_9, nI_leI, nI_ltI, nI_eq, N_z, nI_add, pk_sub, pk_mul, kL_i, kL_r, kL_d, kL_l, kL_k, kL_f, Option.toList_some, Option.toList_none, List.cons_append, List.nil_append, bI_z, N_and, N_or, N_shl, N_shr, Nat.one_mul, Nat.reduceAdd, lg_cmp_eq, L_and, L_or, bI_1, bI_0, if_true, if_false, reduceIte, N_m1x, ite_not, q4, Nat.le_refl]
    have := fin g0 DUM (fun _ _ => rfl) (fun l hl => by rw [hE] at hl; simp at hl) (fun _ _ => rfl)
    rw [hE] at this
    exact this
end TALLY2
