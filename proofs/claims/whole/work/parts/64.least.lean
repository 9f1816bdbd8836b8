/-! the fewest unknown rings: the model -/
section COL
variable {σ : ST} {Ls : List Nat}
theorem lex_anti {n : Nat} {x y : Nat → Nat} (h1 : lexle n x y) (h2 : lexle n y x) : ∀ k, k < n → x k = y k := by
  rcases h1 with h1 | ⟨k, k1, k2, k3⟩
  · exact h1
  · rcases h2 with h2 | ⟨i, i1, i2, i3⟩
    · exact fun q hq => (h2 q hq).symm
    · exfalso
      rcases Nat.lt_trichotomy k i with h | h | h
      · have := i2 k h; omega
      · subst h; omega
      · have := k2 i h; omega
theorem LR_u {m m2 : Nat} {x x2 : Nat → Nat} (h : LR σ Ls m x) (h2 : LR σ Ls m2 x2) : m = m2 ∧ ∀ k, k < Ls.length → x k = x2 k := by
  have e : m = m2 := by
    rcases Nat.lt_trichotomy m m2 with hh | hh | hh
    · exact absurd h.1 (h2.2.2 m hh x)
    · exact hh
    · exact absurd h2.1 (h.2.2 m2 hh x2)
  subst e
  exact ⟨rfl, lex_anti (h.2.1 x2 h2.1) (h2.2.1 x h.1)⟩
noncomputable def lst (σ : ST) : Nat × (Nat → Nat) := @dite _ (∃ p : Nat × (Nat → Nat), LR σ (PL σ) p.1 p.2) (Classical.propDecidable _) (fun h => Classical.choose h) (fun _ => (0, fun _ => 0))
theorem lst_ok {m : Nat} {x : Nat → Nat} (h : LR σ (PL σ) m x) : LR σ (PL σ) (lst σ).1 (lst σ).2 := by
  have hx : ∃ p : Nat × (Nat → Nat), LR σ (PL σ) p.1 p.2 := ⟨(m, x), h⟩
  unfold lst
  rw [dif_pos hx]
  exact Classical.choose_spec hx
theorem lst_eq {m : Nat} {x : Nat → Nat} (h : LR σ (PL σ) m x) : (lst σ).1 = m ∧ ∀ k, k < (PL σ).length → (lst σ).2 k = x k := LR_u (lst_ok h) h
noncomputable def aLeast (σ : ST) : Int32 := if 8 < (PL σ).length then -4 else nI (lst σ).1
/-- the place of a lump, and one; 0 none -/
def plc (σ : ST) (l : Nat) : Nat := fst1 (fun k => decide ((PL σ).getD k 0 = l)) (PL σ).length 0
noncomputable def aOnesN (σ : ST) (l : Nat) : Int32 := if 8 < (PL σ).length then -4 else if plc σ l = 0 then -1 else nI ((lst σ).2 (plc σ l - 1))
/-- a row that goes on from a prefix -/
def ext (n k : Nat) (x y : Nat → Nat) : Prop := ∀ p, p < k → y p = x p
def PV (σ : ST) (Ls : List Nat) (m k : Nat) (x : Nat → Nat) : Prop := (∀ p, p < k → x p < m) ∧ ∀ p q, p < q → q < k → x p = x q → jn σ (Ls.getD p 0) (Ls.getD q 0) = true
end COL
section MG
variable {X : AX} {d : Nat} {Q : Option Value → AH → Prop} {g0 : Nat → Nat → Int32} {hj : Nat → Nat → Int64} {σ : ST} {Ls : List Nat} {ms : Nat}
def apb (σ : ST) (Ls : List Nat) (k j : Nat) : Bool := !jn σ (Ls.getD j 0) (Ls.getD k 0)
def VN (X : AX) (d : Nat) (Q : Option Value → AH → Prop) (g0 : Nat → Nat → Int32) (hj : Nat → Nat → Int64) (σ : ST) (Ls : List Nat) (ms m : Nat) : Prop :=
  ∀ (k : Nat) (x : Nat → Nat) (g : Nat → Nat → Int32) (v4 : Value), k + m = Ls.length → PV σ Ls ms k x → (∀ i, i ≠ 79 → g i = g0 i) → (∀ p, p < k → g 79 p = nI (x p)) →
    (∀ g' x', VR σ Ls ms x' → (∀ p, p < k → x' p = x p) → (∀ y, VR σ Ls ms y → (∀ p, p < k → y p = x p) → lexle Ls.length x' y) → (∀ i, i ≠ 79 → g' i = g0 i) → (∀ p, p < Ls.length → g' 79 p = nI (x' p)) → Q (some (.int (nI 1))) (HP g' hj)) →
    (∀ g' v4, (∀ y, VR σ Ls ms y → ¬ ∀ p, p < k → y p = x p) → (∀ i, i ≠ 79 → g' i = g0 i) → (∀ p, p < k → g' 79 p = nI (x p)) → wp X (d + 1) m_M_gives 4 [.ref 51, .int (nI ms), .int (nI k + (-1)), .int (nI 0), v4] [] (HP g' hj) Q) →
    wp X (d + 1) m_M_gives 4 [.ref 51, .int (nI ms), .int (nI k), .int (nI 1), v4] [] (HP g hj) Q
theorem l_M_gives {k c : Nat} {x : Nat → Nat} {g : Nat → Nat → Int32} {P : Prop} (hk : k < 12) (hc : c < 100) (hx : ∀ p, p < k → g 79 p = nI (x p) ∧ x p < 100) (hn : g 79 k = nI c) (ha : g 80 k = nI (bts (apb σ Ls k) k)) :
    ∀ (m j : Nat) (b : Bool), j + m = k → (wp X (d + 1) m_M_gives 113 [.ref 51, .int (nI ms), .int (nI k), .int (bI ((b && !anyF (fun p => decide (x p = c) && apb σ Ls k p) m j) = true)), .int (nI k)] [] (HP g hj) Q = P) → wp X (d + 1) m_M_gives 61 [.ref 51, .int (nI ms), .int (nI k), .int (bI (b = true)), .int (nI j)] [] (HP g hj) Q = P
  | 0, j, b, hj2, K => by
    have : j = k := by omega
    subst this
    rw [s_M_gives_61]
    simp (disch := omega) only [↓s_M_gives_63, ↓s_M_gives_64, nI_leI, nI_ltI, nI_eq, N_z, nI_add, pk_sub, pk_mul, kL_i, kL_r, kL_d, kL_l, kL_k, kL_f, Option.toList_some, Option.toList_none, List.cons_append, List.nil_append, bI_z, N_and, N_or, N_shl, N_shr, Nat.one_mul, Nat.reduceAdd, lg_cmp_eq, L_and, L_or, bI_1, bI_0, if_true, if_false, reduceIte, N_m1x, ite_not, Nat.le_refl]
    have e : (b && !anyF (fun p => decide (x p = c) && apb σ Ls j p) 0 j) = b := by unfold anyF; simp
    rw [e] at K
    exact K
  | m + 1, j, b, hj2, K => by
    have e : anyF (fun p => decide (x p = c) && apb σ Ls k p) (m + 1) j = ((decide (x j = c) && apb σ Ls k j) || anyF (fun p => decide (x p = c) && apb σ Ls k p) m (j + 1)) := rfl
    rw [e] at K
    obtain ⟨hxj, hxl⟩ := hx j (by omega)
    have lb := bts_16 (apb σ Ls k) (show k ≤ 16 by omega)
    have tb : (bts (apb σ Ls k) k).testBit j = apb σ Ls k j := by rw [bts_tb]; simp [show j < k by omega]
    rw [s_M_gives_61]
    simp (disch := omega) only [↓s_M_gives_63, ↓s_M_gives_64, ↓s_M_gives_67, ↓s_M_gives_68, ↓s_M_gives_71, ↓s_M_gives_72, ↓s_M_gives_75, ↓s_M_gives_77, ↓s_M_gives_78, ↓s_M_gives_79, ↓s_M_gives_82, ↓s_M_gives_83, ↓s_M_gives_84, ↓s_M_gives_87, ↓s_M_gives_88, ↓s_M_gives_91, ↓s_M_gives_92, ↓s_M_gives_93, ↓s_M_gives_95, ↓s_M_gives_98, ↓s_M_gives_101, ↓s_M_gives_102, ↓s_M_gives_105, ↓s_M_gives_106, ↓s_M_gives_107, ↓s_M_gives_110, nI_leI, nI_ltI, nI_eq, N_z, nI_add, pk_sub, pk_mul, kL_i, kL_r, kL_d, kL_l, kL_k, kL_f, Option.toList_some, Option.toList_none, List.cons_append, List.nil_append, bI_z, N_and, N_or, N_shl, N_shr, Nat.one_mul, Nat.reduceAdd, lg_cmp_eq, L_and, L_or, bI_1, bI_0, if_true, if_false, reduceIte, N_m1x, ite_not, hxj, hn, ha, c_M_has, tb]
    rw [if_neg (by omega)]
    have T : (b && !(decide (x j = c) && apb σ Ls k j)) = true → wp X (d + 1) m_M_gives 61 [.ref 51, .int (nI ms), .int (nI k), .int (nI 1), .int (nI (j + 1))] [] (HP g hj) Q = P := by
      intro hb
      simp only [Bool.and_eq_true] at hb
      have ih := l_M_gives (P := P) hk hc hx hn ha m (j + 1) true (by omega) (by
        have hb2 : (decide (x j = c) && apb σ Ls k j) = false := by
          have h0 := hb.2
          revert h0
          cases (decide (x j = c) && apb σ Ls k j) <;> simp
        rw [hb2, Bool.false_or, hb.1] at K
        exact K)
      rw [bI_t rfl] at ih
      exact ih
    have F : ¬ (b && !(decide (x j = c) && apb σ Ls k j)) = true → wp X (d + 1) m_M_gives 61 [.ref 51, .int (nI ms), .int (nI k), .int (nI 0), .int (nI (j + 1))] [] (HP g hj) Q = P := by
      intro hb
      have ih := l_M_gives (P := P) hk hc hx hn ha m (j + 1) false (by omega) (by
        have e2 : (b && !((decide (x j = c) && apb σ Ls k j) || anyF (fun p => decide (x p = c) && apb σ Ls k p) m (j + 1))) = false := by
          revert hb
          cases b <;> cases (decide (x j = c) && apb σ Ls k j) <;> simp
        rw [e2] at K
        rw [Bool.false_and]
        exact K)
      rw [bI_f (by simp)] at ih
      exact ih
    by_cases h1 : b = true
    · rw [if_pos h1]
      by_cases h2 : x j = c
      · rw [if_pos h2]
        by_cases h3 : apb σ Ls k j = true
        · rw [if_pos h3]
          exact F (by simp [h2, h3])
        · rw [if_neg h3]
          exact T (by simp [h1, h3])
      · rw [if_neg h2]
        exact T (by simp [h1, h2])
    · rw [if_neg h1]
      exact F (by simp [h1])
theorem gives_0 (hn : Ls.length ≤ 8) (ho : g0 51 30 = nI Ls.length) : VN X d Q g0 hj σ Ls ms 0 := by
  intro k x g v4 hk hp e1 e2 K1 K0
  have hk2 : k = Ls.length := by omega
  subst hk2
  have e0 : g 51 30 = nI Ls.length := by rw [e1 51 (by omega)]; exact ho
  have z0 : ¬ nI Ls.length < 0 := nI_pos (by omega)
  rw [s_M_gives_4]
  simp (disch := omega) only [↓s_M_gives_5, ↓s_M_gives_8, ↓s_M_gives_9, ↓s_M_gives_10, ↓s_M_gives_13, ↓s_M_gives_128, ↓s_M_gives_129, ↓s_M_gives_130, ↓s_M_gives_133, ↓s_M_gives_136, ↓s_M_gives_137, ↓s_M_gives_140, ↓s_M_gives_141_0, ↓s_M_gives_141_1, ↓s_M_gives_141_b, nI_leI, nI_ltI, nI_eq, N_z, nI_add, pk_sub, pk_mul, kL_i, kL_r, kL_d, kL_l, kL_k, kL_f, Option.toList_some, Option.toList_none, List.cons_append, List.nil_append, bI_z, N_and, N_or, N_shl, N_shr, Nat.one_mul, Nat.reduceAdd, lg_cmp_eq, L_and, L_or, bI_1, bI_0, if_true, if_false, reduceIte, N_m1x, ite_not, Nat.one_ne_zero, Nat.zero_ne_one, eq_self, not_true_eq_false, not_false_eq_true, e0, z0, Nat.le_refl]
  exact K1 g x ⟨hp.1, hp.2⟩ (fun _ _ => rfl) (fun y hy hpre => Or.inl (fun p hp2 => (hpre p hp2).symm)) e1 e2
theorem gives_s (hn : Ls.length ≤ 8) (hms : ms ≤ 20) (ho : g0 51 30 = nI Ls.length) (ha : ∀ k, k < Ls.length → g0 80 k = nI (bts (apb σ Ls k) k)) {m : Nat} (ih : VN X d Q g0 hj σ Ls ms m) : VN X d Q g0 hj σ Ls ms (m + 1) := by
  intro k x g v4 hk hp e1 e2 K1 K0
  have hkl : k < Ls.length := by omega
  have main : ∀ (r c : Nat) (g : Nat → Nat → Int32) (v3 v4 : Value), c + r = ms → (∀ i, i ≠ 79 → g i = g0 i) → (∀ p, p < k → g 79 p = nI (x p)) → (∀ y, VR σ Ls ms y → (∀ p, p < k → y p = x p) → c ≤ y k) →
      wp X (d + 1) m_M_gives 37 [.ref 51, .int (nI ms), .int (nI k), v3, v4] [.int (nI c), .int (nI k), .ref 79] (HP g hj) Q := by
    intro r
    induction r with
    | zero =>
      intro c g v3 v4 hc e1 e2 hy
      have hcc : c = ms := by omega
      subst hcc
      simp (disch := omega) only [↓s_M_gives_37, ↓s_M_gives_38, ↓s_M_gives_39, ↓s_M_gives_42, ↓s_M_gives_43, ↓s_M_gives_44, ↓s_M_gives_45, ↓s_M_gives_48, ↓s_M_gives_51, ↓s_M_gives_52, ↓s_M_gives_53, nI_leI, nI_ltI, nI_eq, N_z, nI_add, pk_sub, pk_mul, kL_i, kL_r, kL_d, kL_l, kL_k, kL_f, Option.toList_some, Option.toList_none, List.cons_append, List.nil_append, bI_z, N_and, N_or, N_shl, N_shr, Nat.one_mul, Nat.reduceAdd, lg_cmp_eq, L_and, L_or, bI_1, bI_0, if_true, if_false, reduceIte, N_m1x, ite_not, u2_s, u2_n, u2_m, Nat.lt_irrefl]
      refine K0 _ _ (fun y hv hpre => ?_) (fun i hi => ?_) (fun p hp => ?_)
      · have h1 := hy y hv hpre
        have h2 := hv.1 k hkl
        omega
      · rw [u2_r _ _ _ hi]; exact e1 i hi
      · rw [u2_m _ _ _ _ (by omega)]; exact e2 p hp
    | succ r ihr =>
      intro c g v3 v4 hc e1 e2 hy
      have f1 : ∀ i, i ≠ 79 → up2 g 79 k (nI c) i = g0 i := fun i hi => by rw [u2_r _ _ _ hi]; exact e1 i hi
      have f2 : ∀ p, p < k + 1 → up2 g 79 k (nI c) 79 p = nI (pu x k c p) := by
        intro p hp
        by_cases e : p = k
        · subst e; rw [u2_s, pu_s]
        · rw [u2_m _ _ _ _ e, pu_n _ e]; exact e2 p (by omega)
      -- the next number
      have next : ∀ (g2 : Nat → Nat → Int32) (v4 : Value), (∀ i, i ≠ 79 → g2 i = g0 i) → (∀ p, p < k + 1 → g2 79 p = nI (pu x k c p)) → (∀ y, VR σ Ls ms y → ¬ ∀ p, p < k + 1 → y p = pu x k c p) → wp X (d + 1) m_M_gives 4 [.ref 51, .int (nI ms), .int (nI k), .int (nI 0), v4] [] (HP g2 hj) Q := by
        intro g2 v4 q1 q2 q3
        have e0 : g2 51 30 = nI Ls.length := by rw [q1 51 (by omega)]; exact ho
        have en : g2 79 k = nI c := by rw [q2 k (by omega), pu_s]
        have z0 : ¬ nI k < 0 := nI_pos (by omega)
        rw [s_M_gives_4]
        simp (disch := omega) only [↓s_M_gives_5, ↓s_M_gives_8, ↓s_M_gives_9, ↓s_M_gives_10, ↓s_M_gives_13, ↓s_M_gives_16, ↓s_M_gives_17, ↓s_M_gives_20, ↓s_M_gives_21, ↓s_M_gives_22, ↓s_M_gives_25, ↓s_M_gives_26, ↓s_M_gives_29, ↓s_M_gives_30, ↓s_M_gives_33, ↓s_M_gives_34, ↓s_M_gives_35, ↓s_M_gives_36, nI_leI, nI_ltI, nI_eq, N_z, nI_add, pk_sub, pk_mul, kL_i, kL_r, kL_d, kL_l, kL_k, kL_f, Option.toList_some, Option.toList_none, List.cons_append, List.nil_append, bI_z, N_and, N_or, N_shl, N_shr, Nat.one_mul, Nat.reduceAdd, lg_cmp_eq, L_and, L_or, bI_1, bI_0, if_true, if_false, reduceIte, N_m1x, ite_not, Nat.one_ne_zero, Nat.zero_ne_one, eq_self, not_true_eq_false, not_false_eq_true, e0, en, z0]
        rw [if_neg (by omega)]
        refine ihr (c + 1) g2 _ _ (by omega) q1 (fun p hp => by rw [q2 p (by omega), pu_n _ (by omega)]) (fun y hv hpre => ?_)
        have h1 := hy y hv hpre
        by_cases e : y k = c
        · exfalso
          refine q3 y hv (fun p hp => ?_)
          by_cases e3 : p = k
          · subst e3; rw [pu_s]; exact e
          · rw [pu_n _ e3]; exact hpre p (by omega)
        · omega
      simp (disch := omega) only [↓s_M_gives_37, ↓s_M_gives_38, ↓s_M_gives_39, ↓s_M_gives_42, ↓s_M_gives_43, ↓s_M_gives_44, ↓s_M_gives_45, ↓s_M_gives_48, ↓s_M_gives_51, ↓s_M_gives_52, ↓s_M_gives_53, ↓s_M_gives_56, ↓s_M_gives_57, ↓s_M_gives_58, ↓s_M_gives_59, nI_leI, nI_ltI, nI_eq, N_z, nI_add, pk_sub, pk_mul, kL_i, kL_r, kL_d, kL_l, kL_k, kL_f, Option.toList_some, Option.toList_none, List.cons_append, List.nil_append, bI_z, N_and, N_or, N_shl, N_shr, Nat.one_mul, Nat.reduceAdd, lg_cmp_eq, L_and, L_or, bI_1, bI_0, if_true, if_false, reduceIte, N_m1x, ite_not, u2_s, u2_n, u2_m]
      rw [if_pos (by omega)]
      refine (l_M_gives (σ := σ) (Ls := Ls) (k := k) (c := c) (x := x) (P := _) (by omega) (by omega) (fun p hp2 => ⟨by rw [u2_m _ _ _ _ (by omega)]; exact e2 p hp2, by have := hp.1 p hp2; omega⟩) (u2_s _ _ _ _) (by rw [f1 80 (by omega)]; exact ha k hkl) k 0 true (by omega) rfl).mpr ?_
      rw [Bool.true_and]
      simp (disch := omega) only [↓s_M_gives_113, ↓s_M_gives_114, ↓s_M_gives_115, ↓s_M_gives_118, ↓s_M_gives_119, ↓s_M_gives_122, ↓s_M_gives_123, ↓s_M_gives_124, ↓s_M_gives_125, nI_leI, nI_ltI, nI_eq, N_z, nI_add, pk_sub, pk_mul, kL_i, kL_r, kL_d, kL_l, kL_k, kL_f, Option.toList_some, Option.toList_none, List.cons_append, List.nil_append, bI_z, N_and, N_or, N_shl, N_shr, Nat.one_mul, Nat.reduceAdd, lg_cmp_eq, L_and, L_or, bI_1, bI_0, if_true, if_false, reduceIte, N_m1x, ite_not]
      have anyT : anyF (fun p => decide (x p = c) && apb σ Ls k p) k 0 = true ↔ ∃ p, p < k ∧ x p = c ∧ jn σ (Ls.getD p 0) (Ls.getD k 0) = false := by
        have gen : ∀ (m i : Nat), anyF (fun p => decide (x p = c) && apb σ Ls k p) m i = true ↔ ∃ p, i ≤ p ∧ p < i + m ∧ x p = c ∧ jn σ (Ls.getD p 0) (Ls.getD k 0) = false := by
          intro m
          induction m with
          | zero =>
            intro i
            constructor
            · intro h; simp [anyF] at h
            · rintro ⟨p, h1, h2, _⟩; omega
          | succ m ihm =>
            intro i
            unfold anyF
            rw [Bool.or_eq_true, ihm (i + 1)]
            constructor
            · rintro (h | ⟨p, h1, h2, h3⟩)
              · simp only [Bool.and_eq_true, decide_eq_true_eq, apb, Bool.not_eq_true'] at h
                exact ⟨i, by omega, by omega, h⟩
              · exact ⟨p, by omega, by omega, h3⟩
            · rintro ⟨p, h1, h2, h3, h4⟩
              by_cases e : p = i
              · subst e
                refine Or.inl ?_
                show (decide (x p = c) && !jn σ (Ls.getD p 0) (Ls.getD k 0)) = true
                rw [h4, decide_eq_true h3]
                rfl
              · exact Or.inr ⟨p, by omega, by omega, h3, h4⟩
        rw [gen k 0]
        constructor
        · rintro ⟨p, h1, h2, h3⟩; exact ⟨p, by omega, h3⟩
        · rintro ⟨p, h1, h2⟩; exact ⟨p, by omega, by omega, h2⟩
      by_cases hb : (!anyF (fun p => decide (x p = c) && apb σ Ls k p) k 0) = true
      · rw [if_pos hb, bI_t hb]
        have hb2 : ¬ anyF (fun p => decide (x p = c) && apb σ Ls k p) k 0 = true := by simpa using hb
        have pv : PV σ Ls ms (k + 1) (pu x k c) := by
          refine ⟨fun p hp2 => ?_, fun p q h1 h2 h3 => ?_⟩
          · by_cases e : p = k
            · subst e; rw [pu_s]; omega
            · rw [pu_n _ e]; exact hp.1 p (by omega)
          · by_cases e : q = k
            · subst e
              rw [pu_s, pu_n _ (by omega)] at h3
              by_cases hjn : jn σ (Ls.getD p 0) (Ls.getD q 0) = true
              · exact hjn
              · exact absurd (anyT.mpr ⟨p, h1, h3, by simpa using hjn⟩) hb2
            · rw [pu_n _ e, pu_n _ (by omega)] at h3
              exact hp.2 p q h1 (by omega) h3
        refine ih (k + 1) (pu x k c) _ _ (by omega) pv f1 f2 (fun g' x' h1 h2 h3 h4 h5 => ?_) (fun g' v4 h1 h2 h3 => ?_)
        · refine K1 g' x' h1 (fun p hp2 => by rw [h2 p (by omega), pu_n _ (by omega)]) (fun y hv hpre => ?_) h4 h5
          have hyk := hy y hv hpre
          by_cases e : y k = c
          · refine h3 y hv (fun p hp2 => ?_)
            by_cases e3 : p = k
            · subst e3; rw [pu_s]; exact e
            · rw [pu_n _ e3]; exact hpre p (by omega)
          · refine Or.inr ⟨k, hkl, fun i hi => ?_, ?_⟩
            · rw [h2 i (by omega), pu_n _ (by omega), hpre i hi]
            · rw [h2 k (by omega), pu_s]; omega
        · rw [N_dec]
          exact next g' v4 h2 h3 h1
      · rw [if_neg hb, bI_f hb, Nat.add_zero]
        have hb2 : anyF (fun p => decide (x p = c) && apb σ Ls k p) k 0 = true := by simpa using hb
        obtain ⟨p, p1, p2, p3⟩ := anyT.mp hb2
        refine next _ _ f1 f2 (fun y hv hpre => ?_)
        have q1 : y p = x p := by rw [hpre p (by omega), pu_n _ (by omega)]
        have q2 : y k = c := by rw [hpre k (by omega), pu_s]
        have := hv.2 p k p1 hkl (by rw [q1, q2, p2])
        rw [p3] at this
        exact absurd this (by decide)
  have e0 : g 51 30 = nI Ls.length := by rw [e1 51 (by omega)]; exact ho
  have z0 : ¬ nI k < 0 := nI_pos (by omega)
  rw [s_M_gives_4]
  simp (disch := omega) only [↓s_M_gives_5, ↓s_M_gives_8, ↓s_M_gives_9, ↓s_M_gives_10, ↓s_M_gives_13, ↓s_M_gives_16, ↓s_M_gives_17, ↓s_M_gives_20, ↓s_M_gives_21, ↓s_M_gives_22, ↓s_M_gives_25, ↓s_M_gives_26, nI_leI, nI_ltI, nI_eq, N_z, nI_add, pk_sub, pk_mul, kL_i, kL_r, kL_d, kL_l, kL_k, kL_f, Option.toList_some, Option.toList_none, List.cons_append, List.nil_append, bI_z, N_and, N_or, N_shl, N_shr, Nat.one_mul, Nat.reduceAdd, lg_cmp_eq, L_and, L_or, bI_1, bI_0, if_true, if_false, reduceIte, N_m1x, ite_not, Nat.one_ne_zero, Nat.zero_ne_one, eq_self, not_true_eq_false, not_false_eq_true, e0, z0]
  rw [if_neg (by omega)]
  exact main ms 0 g _ _ (by omega) e1 e2 (fun _ _ _ => Nat.zero_le _)
theorem gives_all (hn : Ls.length ≤ 8) (hms : ms ≤ 20) (ho : g0 51 30 = nI Ls.length) (ha : ∀ k, k < Ls.length → g0 80 k = nI (bts (apb σ Ls k) k)) : ∀ m, VN X d Q g0 hj σ Ls ms m
  | 0 => gives_0 hn ho
  | m + 1 => gives_s hn hms ho ha (gives_all hn hms ho ha m)
/-- numbers below so many, the least row of them, or none -/
theorem c_M_gives (hn : Ls.length ≤ 8) (hms : ms ≤ 20) (ho : g0 51 30 = nI Ls.length) (ha : ∀ k, k < Ls.length → g0 80 k = nI (bts (apb σ Ls k) k))
    (K1 : ∀ g' x', VR σ Ls ms x' → (∀ y, VR σ Ls ms y → lexle Ls.length x' y) → (∀ i, i ≠ 79 → g' i = g0 i) → (∀ p, p < Ls.length → g' 79 p = nI (x' p)) → Q (some (.int (nI 1))) (HP g' hj))
    (K0 : ∀ g', (∀ y, ¬ VR σ Ls ms y) → (∀ i, i ≠ 79 → g' i = g0 i) → Q (some (.int (nI 0))) (HP g' hj)) : cwp X (d + 1) m_M_gives [.ref 51, .int (nI ms)] (HP g0 hj) Q := by
  simp only [e_M_gives, ↓s_M_gives_0, ↓s_M_gives_1, ↓s_M_gives_2, ↓s_M_gives_3, kL_i]
  refine gives_all hn hms ho ha Ls.length 0 (fun _ => 0) g0 _ (by omega) ⟨fun p hp => by omega, fun p q h1 h2 => by omega⟩ (fun _ _ => rfl) (fun p hp => by omega) (fun g' x' h1 h2 h3 h4 h5 => K1 g' x' h1 (fun y hy => h3 y hy (fun p hp => by omega)) h4 h5) (fun g' v4 h1 h2 h3 => ?_)
  have e0 : g' 51 30 = nI Ls.length := by rw [h2 51 (by omega)]; exact ho
  have hz : nI 0 + (-1 : Int32) < 0 := by decide
  have hz2 : nI 0 + (-1 : Int32) = -1 := by decide
  rw [s_M_gives_4]
  simp only [↓s_M_gives_5, ↓s_M_gives_128, ↓s_M_gives_129, ↓s_M_gives_130, ↓s_M_gives_133, hz, if_true, e0]
  rw [if_pos (by rw [hz2]; intro z; have := nI_ne1 (n := Ls.length) (by omega); rw [← z] at this; simp at this)]
  simp only [↓s_M_gives_140, ↓s_M_gives_141_0, ↓s_M_gives_141_1, ↓s_M_gives_141_b]
  exact K0 g' (fun y hy => h1 y hy (fun p hp => by omega)) h2
end MG
