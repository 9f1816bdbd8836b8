/-! the model goes through the ways -/
def sl (s : Nat) : Nat → List Nat
  | 0 => []
  | m + 1 => if s.testBit m = true then sl s m ++ [m] else sl s m
theorem sl_mem {s l : Nat} : ∀ m, l ∈ sl s m ↔ l < m ∧ s.testBit l = true
  | 0 => by simp [sl]
  | m + 1 => by
    have ih := sl_mem (s := s) (l := l) m
    unfold sl
    by_cases h : s.testBit m = true
    · rw [if_pos h, List.mem_append, ih]
      simp only [List.mem_singleton]
      constructor
      · rintro (⟨a, b⟩ | rfl)
        · exact ⟨by omega, b⟩
        · exact ⟨by omega, h⟩
      · rintro ⟨a, b⟩
        by_cases e : l = m
        · exact Or.inr e
        · exact Or.inl ⟨by omega, b⟩
    · rw [if_neg h, ih]
      constructor
      · rintro ⟨a, b⟩; exact ⟨by omega, b⟩
      · rintro ⟨a, b⟩
        refine ⟨?_, b⟩
        by_cases e : l = m
        · subst e; exact absurd b h
        · omega
theorem sl_nd {s : Nat} : ∀ m, (sl s m).Nodup
  | 0 => by simp [sl]
  | m + 1 => by
    have ih := sl_nd (s := s) m
    unfold sl
    split
    · rw [List.nodup_append]
      refine ⟨ih, by simp, ?_⟩
      intro a ha b hb
      simp only [List.mem_singleton] at hb
      subst hb
      rintro rfl
      have := (sl_mem a).mp ha
      omega
    · exact ih
theorem sl_len {s : Nat} : ∀ m, (sl s m).length ≤ m
  | 0 => Nat.le_refl 0
  | m + 1 => by
    have := sl_len (s := s) m
    unfold sl
    split
    · rw [List.length_append]; simp; omega
    · omega
def dnk (Ls : List Nat) (k : Nat) : List Nat := (Ls.take k).reverse
theorem dnk_s {Ls : List Nat} {k : Nat} (h : k < Ls.length) : dnk Ls (k + 1) = Ls.getD k 0 :: dnk Ls k := by
  unfold dnk
  rw [tk_s h, List.reverse_append]
  rfl
theorem dnk_mem {Ls : List Nat} {k x : Nat} (h : k ≤ Ls.length) : x ∈ dnk Ls k ↔ ∃ p, p < k ∧ x = Ls.getD p 0 := by
  unfold dnk
  rw [List.mem_reverse, tk_mem h]
theorem drop_s {Ls : List Nat} {k : Nat} (h : k < Ls.length) : Ls.drop k = Ls.getD k 0 :: Ls.drop (k + 1) := by
  rw [List.drop_eq_getElem_cons h, List.getD_eq_getElem?_getD, List.getElem?_eq_getElem h]
  rfl
theorem N_dec (k : Nat) : nI (k + 1) + (-1 : Int32) = nI k := by
  rw [N_m1, nI_add, N_mod (k + 1 + 4294967295), N_mod k, show (k + 1 + 4294967295) % 4294967296 = k % 4294967296 by omega]
def BS (g0 g : Nat → Nat → Int32) : Prop := (∀ k, k ≠ 51 → k ≠ 72 → (k < 74 ∨ 79 ≤ k) → g k = g0 k) ∧ ∀ i, i ≠ 34 → i ≠ 35 → g 51 i = g0 51 i
def CHS (σ : ST) (Ls : List Nat) (g : Nat → Nat → Int32) (j : Nat → Nat) (k : Nat) : Prop := ∀ p, p < k → g 72 (Ls.getD p 0) = nI (24 * Ls.getD p 0 + j (Ls.getD p 0)) ∧ j (Ls.getD p 0) < on σ (Ls.getD p 0) 6
def OB (σ : ST) (Ls : List Nat) (g0 : Nat → Nat → Int32) (hj : Nat → Nat → Int64) : Prop := M0 σ g0 hj ∧ rdOp g0 hj σ ∧ (∀ k, k < Ls.length → g0 73 k = nI (Ls.getD k 0)) ∧ g0 51 30 = nI Ls.length ∧ Ls.Nodup ∧ (∀ l, l ∈ Ls → l < σ 11 0) ∧ Ls.length ≤ 12
section GOES
variable {X : AX} {d : Nat} {Q : Option Value → AH → Prop} {g0 : Nat → Nat → Int32} {hj : Nat → Nat → Int64} {σ : ST} {Ls : List Nat} {T : List (Nat → Nat) → (Nat → Nat → Int32) → Prop} {most : Nat} {s1 a1 : Int32}
theorem AP_of {g : Nat → Nat → Int32} {j : Nat → Nat} {u : Nat} (o : OB σ Ls g0 hj) (b : BS g0 g) (c : CHS σ Ls g j (u + 1)) (hu : u < Ls.length) : AP σ g hj Ls j u := by
  obtain ⟨o1, o2, o3, o4, o5, o6, o7⟩ := o
  refine ⟨M0_cg o1 (b.2 _ (by omega) (by omega)) (b.2 _ (by omega) (by omega)) (b.2 _ (by omega) (by omega)) (b.2 _ (by omega) (by omega)) (fun k _ _ => b.1 k (by omega) (by omega) (by omega)), ?_, ?_, fun k hk => c k (by omega), o5, o6, hu, o7⟩
  · unfold rdOp at o2 ⊢
    rw [b.1 66 (by omega) (by omega) (by omega), b.1 67 (by omega) (by omega) (by omega), b.1 68 (by omega) (by omega) (by omega), b.1 69 (by omega) (by omega) (by omega), b.1 70 (by omega) (by omega) (by omega)]
    exact o2
  · rw [b.1 73 (by omega) (by omega) (by omega)]; exact o3
/-- what is owed of the tally -/
def TY (X : AX) (d : Nat) (Q : Option Value → AH → Prop) (g0 : Nat → Nat → Int32) (hj : Nat → Nat → Int64) (σ : ST) (Ls : List Nat) (T : List (Nat → Nat) → (Nat → Nat → Int32) → Prop) (most : Nat) (s1 a1 : Int32) : Prop :=
  ∀ (dn : List (Nat → Nat)) (j : Nat → Nat) (g : Nat → Nat → Int32) (v7 : Value), BS g0 g → CHS σ Ls g j Ls.length → T dn g → dn.length < most →
    (∀ g', BS g0 g' → CHS σ Ls g' j Ls.length → T (dn ++ [j]) g' → wp X (d + 2) m_M_goes 99 [.ref 51, .int s1, .int (nI most), .int a1, .int (nI (dn.length + 1)), .int (nI Ls.length), .int (nI 1), v7] [] (HP g' hj) Q) →
    wp X (d + 2) m_M_goes 82 [.ref 51, .int s1, .int (nI most), .int a1, .int (nI dn.length), .int (nI Ls.length), .int (nI 1), v7] [] (HP g hj) Q
def VG (X : AX) (d : Nat) (Q : Option Value → AH → Prop) (g0 : Nat → Nat → Int32) (hj : Nat → Nat → Int64) (σ : ST) (Ls : List Nat) (T : List (Nat → Nat) → (Nat → Nat → Int32) → Prop) (most : Nat) (s1 a1 : Int32) (m : Nat) : Prop :=
  ∀ (k : Nat) (j : Nat → Nat) (dn : List (Nat → Nat)) (g : Nat → Nat → Int32) (v7 : Value), k + m = Ls.length → BS g0 g → CHS σ Ls g j k → T dn g → dn.length < most →
    (∀ g' v7, BS g0 g' → CHS σ Ls g' j k → T (dn ++ Ws σ (Ls.drop k) (dnk Ls k) j) g' → (dn ++ Ws σ (Ls.drop k) (dnk Ls k) j).length < most → wp X (d + 2) m_M_goes 62 [.ref 51, .int s1, .int (nI most), .int a1, .int (nI (dn ++ Ws σ (Ls.drop k) (dnk Ls k) j).length), .int (nI k + (-1)), .int (nI 0), v7] [] (HP g' hj) Q) →
    (∀ g', BS g0 g' → T (dn ++ (Ws σ (Ls.drop k) (dnk Ls k) j).take (most - dn.length)) g' → most ≤ (dn ++ Ws σ (Ls.drop k) (dnk Ls k) j).length → Q (some (.int (nI most))) (HP g' hj)) →
    wp X (d + 2) m_M_goes 62 [.ref 51, .int s1, .int (nI most), .int a1, .int (nI dn.length), .int (nI k), .int (nI 1), v7] [] (HP g hj) Q
theorem goes_0 (hm : most ≤ 20000) (o : OB σ Ls g0 hj) (ty : TY X d Q g0 hj σ Ls T most s1 a1) : VG X d Q g0 hj σ Ls T most s1 a1 0 := by
  intro k j dn g v7 hk b c t hl K Kx
  have hn := o.2.2.2.2.2.2
  have hk2 : k = Ls.length := by omega
  subst hk2
  have e0 : g 51 30 = nI Ls.length := by rw [b.2 _ (by omega) (by omega)]; exact o.2.2.2.1
  have eW : Ws σ (Ls.drop Ls.length) (dnk Ls Ls.length) j = [j] := by rw [List.drop_length]; rfl
  rw [eW] at K Kx
  have z0 : ¬ nI Ls.length < 0 := nI_pos (by omega)
  rw [s_M_goes_62]
  simp (disch := omega) only [↓s_M_goes_64, ↓s_M_goes_67, ↓s_M_goes_69, ↓s_M_goes_70, ↓s_M_goes_73, ↓s_M_goes_75, ↓s_M_goes_76, ↓s_M_goes_79, nI_leI, nI_ltI, nI_eq, N_z, nI_add, pk_sub, pk_mul, kL_i, kL_r, kL_d, kL_l, kL_k, kL_f, Option.toList_some, Option.toList_none, List.cons_append, List.nil_append, bI_z, N_and, N_or, N_shl, N_shr, Nat.one_mul, Nat.reduceAdd, lg_cmp_eq, L_and, L_or, bI_1, bI_0, if_true, if_false, reduceIte, N_m1x, ite_not, e0, z0]
  rw [if_neg (by omega)]
  refine ty dn j g v7 b c t hl (fun g' b' c' t' => ?_)
  have el : (dn ++ [j]).length = dn.length + 1 := by rw [List.length_append]; rfl
  rw [el] at K Kx
  simp (disch := omega) only [↓s_M_goes_99, ↓s_M_goes_102, ↓s_M_goes_103, ↓s_M_goes_105, nI_leI, nI_ltI, nI_eq, N_z, nI_add, pk_sub, pk_mul, kL_i, kL_r, kL_d, kL_l, kL_k, kL_f, Option.toList_some, Option.toList_none, List.cons_append, List.nil_append, bI_z, N_and, N_or, N_shl, N_shr, Nat.one_mul, Nat.reduceAdd, lg_cmp_eq, L_and, L_or, bI_1, bI_0, if_true, if_false, reduceIte, N_m1x, ite_not]
  by_cases h1 : dn.length + 1 < most
  · exact K g' v7 b' c' t' h1
  · have h2 : dn.length + 1 = most := by omega
    have h3 : most - dn.length = 1 := by omega
    rw [h3] at Kx
    have fin := Kx g' b' t' (by omega)
    rw [s_M_goes_62]
    simp (disch := omega) only [↓s_M_goes_64, ↓s_M_goes_67, ↓s_M_goes_69, ↓s_M_goes_70, ↓s_M_goes_204, ↓s_M_goes_206, nI_leI, nI_ltI, nI_eq, N_z, nI_add, pk_sub, pk_mul, kL_i, kL_r, kL_d, kL_l, kL_k, kL_f, Option.toList_some, Option.toList_none, List.cons_append, List.nil_append, bI_z, N_and, N_or, N_shl, N_shr, Nat.one_mul, Nat.reduceAdd, lg_cmp_eq, L_and, L_or, bI_1, bI_0, if_true, if_false, reduceIte, N_m1x, ite_not, h2, Nat.le_refl, ite_self]
    exact fin
theorem AGL_iff {j : Nat → Nat} {S S2 : Nat → Prop} (h : ∀ l, S l ↔ S2 l) : AGL σ j S ↔ AGL σ j S2 := ⟨fun z => AGL_sub z (fun l hl => (h l).mpr hl), fun z => AGL_sub z (fun l hl => (h l).mp hl)⟩
theorem goes_s (hm : most ≤ 20000) (o : OB σ Ls g0 hj) (hF : ∀ dn g g', T dn g → (∀ k, k ≠ 72 → (k < 74 ∨ 77 ≤ k) → g' k = g k) → T dn g') {m : Nat} (ih : VG X d Q g0 hj σ Ls T most s1 a1 m) : VG X d Q g0 hj σ Ls T most s1 a1 (m + 1) := by
  intro k j dn g v7 hk b c t hl K Kx
  have hn := o.2.2.2.2.2.2
  have hkl : k < Ls.length := by omega
  rw [drop_s hkl] at K Kx
  generalize hL : Ls.getD k 0 = l at K Kx
  have hlm : l < σ 11 0 := by rw [← hL]; exact o.2.2.2.2.2.1 _ (gD_mem hkl)
  have w1 := o.1.1.2.2.2.1.1
  have hne : ∀ p, p < k → Ls.getD p 0 ≠ l := by
    intro p hp e
    rw [← hL] at e
    have := gD_inj o.2.2.2.2.1 (by omega) hkl e
    omega
  have hon := on_le (σ := σ) (l := l) 6
  have eW : Ws σ (l :: Ls.drop (k + 1)) (dnk Ls k) j = flm (fun c => if okB σ (l :: dnk Ls k) l (pu j l c) = true then Ws σ (Ls.drop (k + 1)) (l :: dnk Ls k) (pu j l c) else []) (on σ l 6) 0 := rfl
  rw [eW] at K Kx
  generalize hf : (fun c => if okB σ (l :: dnk Ls k) l (pu j l c) = true then Ws σ (Ls.drop (k + 1)) (l :: dnk Ls k) (pu j l c) else []) = f at K Kx
  have ed : l :: dnk Ls k = dnk Ls (k + 1) := by rw [dnk_s hkl, hL]
  -- from the place of the store on
  have main : ∀ (r cc : Nat) (dn : List (Nat → Nat)) (g : Nat → Nat → Int32) (v6 : Value), cc + r = on σ l 6 → BS g0 g → CHS σ Ls g j k → T dn g → dn.length < most →
      (∀ g' v7, BS g0 g' → CHS σ Ls g' j k → T (dn ++ flm f r cc) g' → (dn ++ flm f r cc).length < most → wp X (d + 2) m_M_goes 62 [.ref 51, .int s1, .int (nI most), .int a1, .int (nI (dn ++ flm f r cc).length), .int (nI k + (-1)), .int (nI 0), v7] [] (HP g' hj) Q) →
      (∀ g', BS g0 g' → T (dn ++ (flm f r cc).take (most - dn.length)) g' → most ≤ (dn ++ flm f r cc).length → Q (some (.int (nI most))) (HP g' hj)) →
      wp X (d + 2) m_M_goes 145 [.ref 51, .int s1, .int (nI most), .int a1, .int (nI dn.length), .int (nI k), v6, .int (nI l)] [.int (nI (24 * l + cc)), .int (nI l), .ref 72] (HP g hj) Q := by
    intro r
    induction r with
    | zero =>
      intro cc dn g v6 hc b c t hl K Kx
      have em : g 66 l = nI (on σ l 6) := by rw [b.1 66 (by omega) (by omega) (by omega)]; exact (o.2.1.1 l hlm).1
      have hcc : cc = on σ l 6 := by omega
      subst hcc
      have b' : BS g0 (up2 g 72 l (nI (24 * l + on σ l 6))) := ⟨fun x h1 h2 h3 => by rw [u2_r _ _ _ h2]; exact b.1 x h1 h2 h3, fun i h1 h2 => by rw [u2_n _ _ _ _ (by omega)]; exact b.2 i h1 h2⟩
      have c' : CHS σ Ls (up2 g 72 l (nI (24 * l + on σ l 6))) j k := fun p hp => by rw [u2_m _ _ _ _ (hne p hp)]; exact c p hp
      have t' := hF dn g (up2 g 72 l (nI (24 * l + on σ l 6))) t (fun x h1 h2 => u2_r _ _ _ h1)
      simp (disch := omega) only [↓s_M_goes_145, ↓s_M_goes_146, ↓s_M_goes_147, ↓s_M_goes_150, ↓s_M_goes_152, ↓s_M_goes_153, ↓s_M_goes_155, ↓s_M_goes_157, ↓s_M_goes_158, ↓s_M_goes_159, ↓s_M_goes_162, ↓s_M_goes_164, ↓s_M_goes_165, ↓s_M_goes_166, ↓s_M_goes_169, ↓s_M_goes_172, ↓s_M_goes_173, ↓s_M_goes_175, ↓s_M_goes_201, nI_leI, nI_ltI, nI_eq, N_z, nI_add, pk_sub, pk_mul, kL_i, kL_r, kL_d, kL_l, kL_k, kL_f, Option.toList_some, Option.toList_none, List.cons_append, List.nil_append, bI_z, N_and, N_or, N_shl, N_shr, Nat.one_mul, Nat.reduceAdd, lg_cmp_eq, L_and, L_or, bI_1, bI_0, if_true, if_false, reduceIte, N_m1x, ite_not, u2_s, u2_n, u2_m, em]
      have e1 : dn ++ flm f 0 (on σ l 6) = dn := List.append_nil dn
      rw [e1] at K
      exact K _ _ b' c' t' hl
    | succ r ihr =>
      intro cc dn g v6 hc b c t hl K Kx
      have em : g 66 l = nI (on σ l 6) := by rw [b.1 66 (by omega) (by omega) (by omega)]; exact (o.2.1.1 l hlm).1
      have b' : BS g0 (up2 g 72 l (nI (24 * l + cc))) := ⟨fun x h1 h2 h3 => by rw [u2_r _ _ _ h2]; exact b.1 x h1 h2 h3, fun i h1 h2 => by rw [u2_n _ _ _ _ (by omega)]; exact b.2 i h1 h2⟩
      have c' : CHS σ Ls (up2 g 72 l (nI (24 * l + cc))) (pu j l cc) (k + 1) := by
        intro p hp
        by_cases e : p = k
        · subst e
          rw [hL, u2_s, pu_s]
          exact ⟨rfl, by omega⟩
        · rw [u2_m _ _ _ _ (hne p (by omega)), pu_n _ (hne p (by omega))]
          exact c p (by omega)
      have t' := hF dn g (up2 g 72 l (nI (24 * l + cc))) t (fun x h1 h2 => u2_r _ _ _ h1)
      have ap := AP_of o b' c' hkl
      have eS : flm f (r + 1) cc = f cc ++ flm f r (cc + 1) := rfl
      rw [eS] at K Kx
      -- back at the head of the loop, the next option is tried
      have next : ∀ (dn2 : List (Nat → Nat)) (g2 : Nat → Nat → Int32) (v7 : Value), BS g0 g2 → CHS σ Ls g2 (pu j l cc) (k + 1) → T dn2 g2 → dn2.length < most → dn2 = dn ++ f cc →
          wp X (d + 2) m_M_goes 62 [.ref 51, .int s1, .int (nI most), .int a1, .int (nI dn2.length), .int (nI k), .int (nI 0), v7] [] (HP g2 hj) Q := by
        intro dn2 g2 v7 b2 c2 t2 hl2 e2
        have e0 : g2 51 30 = nI Ls.length := by rw [b2.2 _ (by omega) (by omega)]; exact o.2.2.2.1
        have eo : g2 73 k = nI l := by rw [b2.1 73 (by omega) (by omega) (by omega), o.2.2.1 k hkl, hL]
        have ec : g2 72 l = nI (24 * l + cc) := by
          have := (c2 k (by omega)).1
          rw [hL, pu_s] at this
          exact this
        have z0 : ¬ nI k < 0 := nI_pos (by omega)
        have c3 : CHS σ Ls g2 j k := fun p hp => by
          have := c2 p (by omega)
          rw [pu_n _ (hne p hp)] at this
          exact this
        rw [s_M_goes_62]
        simp (disch := omega) only [↓s_M_goes_64, ↓s_M_goes_67, ↓s_M_goes_69, ↓s_M_goes_70, ↓s_M_goes_73, ↓s_M_goes_75, ↓s_M_goes_76, ↓s_M_goes_79, ↓s_M_goes_108, ↓s_M_goes_109, ↓s_M_goes_112, ↓s_M_goes_114, ↓s_M_goes_115, ↓s_M_goes_117, ↓s_M_goes_118, ↓s_M_goes_121, ↓s_M_goes_123, ↓s_M_goes_125, ↓s_M_goes_128, ↓s_M_goes_130, ↓s_M_goes_132, ↓s_M_goes_133, ↓s_M_goes_136, ↓s_M_goes_137, ↓s_M_goes_140, ↓s_M_goes_142, ↓s_M_goes_143, ↓s_M_goes_144, nI_leI, nI_ltI, nI_eq, N_z, nI_add, pk_sub, pk_mul, kL_i, kL_r, kL_d, kL_l, kL_k, kL_f, Option.toList_some, Option.toList_none, List.cons_append, List.nil_append, bI_z, N_and, N_or, N_shl, N_shr, Nat.one_mul, Nat.reduceAdd, lg_cmp_eq, L_and, L_or, bI_1, bI_0, if_true, if_false, reduceIte, N_m1x, ite_not, Nat.one_ne_zero, Nat.zero_ne_one, eq_self, not_true_eq_false, not_false_eq_true, e0, eo, ec, z0]
        rw [if_neg (by omega), if_neg (by omega), Nat.add_assoc]
        subst e2
        refine ihr (cc + 1) (dn ++ f cc) g2 _ (by omega) b2 c3 t2 hl2 (fun g' v7 b' c' t' h' => ?_) (fun g' b' t' h' => ?_)
        · rw [List.append_assoc] at t' h' ⊢
          exact K g' v7 b' c' t' h'
        · rw [List.append_assoc] at h'
          refine Kx g' b' ?_ h'
          rw [List.take_append, List.take_of_length_le (by rw [List.length_append] at hl2; omega), ← List.append_assoc]
          rw [List.length_append] at t'
          rw [show most - dn.length - (f cc).length = most - (dn.length + (f cc).length) by omega]
          exact t'
      simp (disch := omega) only [↓s_M_goes_145, ↓s_M_goes_146, ↓s_M_goes_147, ↓s_M_goes_150, ↓s_M_goes_152, ↓s_M_goes_153, ↓s_M_goes_155, ↓s_M_goes_157, ↓s_M_goes_158, ↓s_M_goes_159, ↓s_M_goes_162, ↓s_M_goes_164, ↓s_M_goes_165, ↓s_M_goes_166, ↓s_M_goes_178, ↓s_M_goes_179, ↓s_M_goes_181, nI_leI, nI_ltI, nI_eq, N_z, nI_add, pk_sub, pk_mul, kL_i, kL_r, kL_d, kL_l, kL_k, kL_f, Option.toList_some, Option.toList_none, List.cons_append, List.nil_append, bI_z, N_and, N_or, N_shl, N_shr, Nat.one_mul, Nat.reduceAdd, lg_cmp_eq, L_and, L_or, bI_1, bI_0, if_true, if_false, reduceIte, N_m1x, ite_not, u2_s, u2_n, u2_m, em]
      rw [if_neg (by omega)]
      refine c_M_agree ap (fun g3 f3 => ?_)
      have b3 : BS g0 g3 := ⟨fun x h1 h2 h3 => by rw [f3 x (by omega)]; exact b'.1 x h1 h2 h3, fun i h1 h2 => by rw [f3 51 (by omega)]; exact b'.2 i h1 h2⟩
      have c3 : CHS σ Ls g3 (pu j l cc) (k + 1) := fun p hp => by rw [f3 72 (by omega)]; exact c' p hp
      have t3 := hF dn _ g3 t' (fun x h1 h2 => f3 x (by omega))
      have eok : okB σ (l :: dnk Ls k) l (pu j l cc) = cl (AGL σ (pu j l cc) (fun x => (∃ p, p ≤ k ∧ x = Ls.getD p 0) ∧ oR σ x (pu j l cc x) = oR σ (Ls.getD k 0) (pu j l cc (Ls.getD k 0)))) := by
        refine cl_cg (AGL_iff (fun x => ?_))
        rw [hL, ed, dnk_mem (by omega)]
        constructor
        · rintro ⟨⟨p, p1, p2⟩, p3⟩; exact ⟨⟨p, by omega, p2⟩, p3⟩
        · rintro ⟨⟨p, p1, p2⟩, p3⟩; exact ⟨⟨p, by omega, p2⟩, p3⟩
      rw [← eok]
      simp (disch := omega) only [↓s_M_goes_184, ↓s_M_goes_186, ↓s_M_goes_188, ↓s_M_goes_190, ↓s_M_goes_193, ↓s_M_goes_194, ↓s_M_goes_197, ↓s_M_goes_198, ↓s_M_goes_199, ↓s_M_goes_201, nI_leI, nI_ltI, nI_eq, N_z, nI_add, pk_sub, pk_mul, kL_i, kL_r, kL_d, kL_l, kL_k, kL_f, Option.toList_some, Option.toList_none, List.cons_append, List.nil_append, bI_z, N_and, N_or, N_shl, N_shr, Nat.one_mul, Nat.reduceAdd, lg_cmp_eq, L_and, L_or, bI_1, bI_0, if_true, if_false, reduceIte, N_m1x, ite_not, Nat.one_ne_zero, Nat.zero_ne_one, eq_self, not_true_eq_false, not_false_eq_true]
      have ef : f cc = if okB σ (l :: dnk Ls k) l (pu j l cc) = true then Ws σ (Ls.drop (k + 1)) (l :: dnk Ls k) (pu j l cc) else [] := by rw [← hf]
      by_cases hok : okB σ (l :: dnk Ls k) l (pu j l cc) = true
      · rw [if_pos hok] at ef ⊢
        rw [bI_t hok]
        rw [ed] at ef
        refine ih (k + 1) (pu j l cc) dn g3 _ (by omega) b3 c3 t3 hl (fun g4 v7 b4 c4 t4 h4 => ?_) (fun g4 b4 t4 h4 => ?_)
        · rw [← ef] at t4 h4 ⊢
          rw [N_dec]
          exact next (dn ++ f cc) g4 v7 b4 c4 t4 h4 rfl
        · rw [← ef] at t4 h4
          refine Kx g4 b4 ?_ ?_
          · rw [List.take_append_of_le_length (by rw [List.length_append] at h4; omega)]
            exact t4
          · rw [List.length_append, List.length_append]
            rw [List.length_append] at h4
            omega
      · rw [if_neg hok] at ef ⊢
        rw [bI_f hok, Nat.add_zero]
        refine next dn g3 _ b3 c3 t3 hl ?_
        rw [ef, List.append_nil]
  have e0 : g 51 30 = nI Ls.length := by rw [b.2 _ (by omega) (by omega)]; exact o.2.2.2.1
  have eo : g 73 k = nI l := by rw [b.1 73 (by omega) (by omega) (by omega), o.2.2.1 k hkl, hL]
  have z0 : ¬ nI k < 0 := nI_pos (by omega)
  rw [s_M_goes_62]
  simp (disch := omega) only [↓s_M_goes_64, ↓s_M_goes_67, ↓s_M_goes_69, ↓s_M_goes_70, ↓s_M_goes_73, ↓s_M_goes_75, ↓s_M_goes_76, ↓s_M_goes_79, ↓s_M_goes_108, ↓s_M_goes_109, ↓s_M_goes_112, ↓s_M_goes_114, ↓s_M_goes_115, ↓s_M_goes_117, ↓s_M_goes_118, ↓s_M_goes_121, ↓s_M_goes_123, ↓s_M_goes_125, ↓s_M_goes_128, ↓s_M_goes_130, ↓s_M_goes_132, ↓s_M_goes_133, nI_leI, nI_ltI, nI_eq, N_z, nI_add, pk_sub, pk_mul, kL_i, kL_r, kL_d, kL_l, kL_k, kL_f, Option.toList_some, Option.toList_none, List.cons_append, List.nil_append, bI_z, N_and, N_or, N_shl, N_shr, Nat.one_mul, Nat.reduceAdd, lg_cmp_eq, L_and, L_or, bI_1, bI_0, if_true, if_false, reduceIte, N_m1x, ite_not, Nat.one_ne_zero, Nat.zero_ne_one, eq_self, not_true_eq_false, not_false_eq_true, e0, eo, z0]
  rw [if_neg (by omega), if_neg (by omega)]
  exact main (on σ l 6) 0 dn g _ (by omega) b c t hl K Kx
end GOES
