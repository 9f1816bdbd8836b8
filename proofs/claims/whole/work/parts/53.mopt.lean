/-! the model's options -/
/-- entries of a lump's options -/
def EL (σ : ST) (g : Nat → Nat → Int32) (l : Nat) (E : List (Nat × Nat)) : Prop := ∀ i, i < E.length → g 67 (24 * l + i) = nI (E.getD i (0, 0)).1 ∧ g 68 (24 * l + i) = nI (E.getD i (0, 0)).2 ∧ g 69 (24 * l + i) = nI (ch σ l (E.getD i (0, 0)).1 (E.getD i (0, 0)).2) ∧ g 70 (24 * l + i) = nI (wh σ l (E.getD i (0, 0)).2)
def OI (σ : ST) (g0 g : Nat → Nat → Int32) (l : Nat) (E : List (Nat × Nat)) : Prop := (∀ k, k ≤ 65 ∨ 71 ≤ k → g k = g0 k) ∧ (∀ m, m < l → g 66 m = nI (on σ m 6) ∧ EL σ g m (ops σ m 6)) ∧ EL σ g l E
theorem gD_l {α : Type} {x : α} {E F : List α} {i : Nat} (h : i < E.length) : (E ++ F).getD i x = E.getD i x := by
  rw [List.getD_eq_getElem?_getD, List.getD_eq_getElem?_getD, List.getElem?_append_left h]
theorem gD_r {α : Type} {x y : α} {E : List α} : (E ++ [y]).getD E.length x = y := by
  rw [List.getD_eq_getElem?_getD, List.getElem?_append_right (Nat.le_refl _), Nat.sub_self]
  rfl
theorem ops_top {σ : ST} {l : Nat} : ∀ k, ops σ l (σ 2 0 + k) = ops σ l (σ 2 0)
  | 0 => rfl
  | k + 1 => by
    have hk : ∀ t, kp σ l (σ 2 0 + k) t = [] := by
      intro t
      induction t with
      | zero => rfl
      | succ t ih =>
        unfold kp
        rw [if_neg (by simp; intro z; omega), ih]
    rw [← Nat.add_assoc, ops, hk, ops_top k]
    simp
theorem ops_6 {σ : ST} {l : Nat} (h : σ 2 0 ≤ 6) : ops σ l (σ 2 0) = ops σ l 6 := by
  have := ops_top (σ := σ) (l := l) (6 - σ 2 0)
  rw [show σ 2 0 + (6 - σ 2 0) = 6 by omega] at this
  exact this.symm
section MOPT
variable {X : AX} {d : Nat} {Q : Option Value → AH → Prop} {g0 : Nat → Nat → Int32} {hj : Nat → Nat → Int64} {σ : ST} {l r t : Nat}
theorem OI_M0 {g : Nat → Nat → Int32} {E : List (Nat × Nat)} (c : M0 σ g0 hj) (h : OI σ g0 g l E) : M0 σ g hj :=
  M0_cg c (by rw [h.1 51 (by omega)]) (by rw [h.1 51 (by omega)]) (by rw [h.1 51 (by omega)]) (by rw [h.1 51 (by omega)]) (fun k _ _ => h.1 k (by omega))
theorem l_M_options5 {N F A B : Nat} {f : Nat → Bool} {g : Nat → Nat → Int32} {K : List Nat} {P : Prop} (hl : l < 12) (hF : F + K.length = N) (hN : N ≤ 24) (hA : A < 65536) (hB : B < 65536)
    (hf : ∀ m, m < K.length → ∃ x y, x < 65536 ∧ y < 65536 ∧ g 69 (24 * l + (F + m)) = nI x ∧ g 70 (24 * l + (F + m)) = nI y ∧ f (K.getD m 0) = decide (x = A ∧ y = B))
    (Kc : wp X d m_M_options 159 [.ref 51, .int (nI l), .int (nI N), .int (nI r), .int (nI F), .int (nI t), .int (nI A), .int (nI B), .int (bI (K.any f = true)), .int (nI N)] [] (HP g hj) Q = P) :
    ∀ (c m : Nat), m + c = K.length → wp X d m_M_options 101 [.ref 51, .int (nI l), .int (nI N), .int (nI r), .int (nI F), .int (nI t), .int (nI A), .int (nI B), .int (bI ((K.take m).any f = true)), .int (nI (F + m))] [] (HP g hj) Q = P
  | 0, m, hm => by
    have : m = K.length := by omega
    subst this
    rw [s_M_options_101]
    simp (disch := omega) only [↓s_M_options_103, ↓s_M_options_104, nI_leI, nI_ltI, nI_eq, N_z, nI_add, pk_sub, pk_mul, kL_i, kL_r, kL_d, kL_l, kL_k, kL_f, Option.toList_some, Option.toList_none, List.cons_append, List.nil_append, bI_z, N_and, N_or, N_shl, N_shr, Nat.one_mul, Nat.reduceAdd, lg_cmp_eq, L_and, L_or, bI_1, bI_0, if_true, if_false, reduceIte, N_m1x, ite_not]
    rw [if_pos (by omega), hF, List.take_length]
    exact Kc
  | c + 1, m, hm => by
    obtain ⟨x, y, hx, hy, e1, e2, e3⟩ := hf m (by omega)
    have hm2 : m < K.length := by omega
    have e4 : (K.take (m + 1)).any f = ((K.take m).any f || f (K.getD m 0)) := by
      rw [List.take_succ, List.any_append, List.getD_eq_getElem?_getD, List.getElem?_eq_getElem hm2]
      simp
    have ih := l_M_options5 hl hF hN hA hB hf Kc c (m + 1) (by omega)
    rw [s_M_options_101]
    simp (disch := omega) only [↓s_M_options_103, ↓s_M_options_104, ↓s_M_options_107, ↓s_M_options_109, ↓s_M_options_112, ↓s_M_options_113, ↓s_M_options_116, ↓s_M_options_118, ↓s_M_options_119, ↓s_M_options_120, ↓s_M_options_122, ↓s_M_options_123, ↓s_M_options_124, ↓s_M_options_126, ↓s_M_options_129, ↓s_M_options_130, ↓s_M_options_133, ↓s_M_options_135, ↓s_M_options_136, ↓s_M_options_137, ↓s_M_options_139, ↓s_M_options_140, ↓s_M_options_141, ↓s_M_options_143, ↓s_M_options_146, ↓s_M_options_147, ↓s_M_options_150, ↓s_M_options_151, ↓s_M_options_153, ↓s_M_options_156, nI_leI, nI_ltI, nI_eq, N_z, nI_add, pk_sub, pk_mul, kL_i, kL_r, kL_d, kL_l, kL_k, kL_f, Option.toList_some, Option.toList_none, List.cons_append, List.nil_append, bI_z, N_and, N_or, N_shl, N_shr, Nat.one_mul, Nat.reduceAdd, lg_cmp_eq, L_and, L_or, bI_1, bI_0, if_true, if_false, reduceIte, N_m1x, ite_not, e1, e2]
    rw [if_neg (by omega)]
    rw [Nat.add_assoc]
    by_cases h1 : (K.take m).any f = true
    · rw [if_pos h1]
      rw [e4, h1, Bool.true_or, bI_t rfl] at ih
      exact ih
    · rw [if_neg h1]
      have h2 : (K.take m).any f = false := by simpa using h1
      rw [e4, h2, Bool.false_or, e3] at ih
      by_cases h3 : x = A
      · rw [if_pos h3]
        by_cases h4 : y = B
        · rw [if_pos h4]
          rw [bI_t (by simp [h3, h4])] at ih
          exact ih
        · rw [if_neg h4]
          rw [bI_f (by simp [h4])] at ih
          exact ih
      · rw [if_neg h3]
        rw [bI_f (by simp [h3])] at ih
        exact ih
theorem EL_app {g : Nat → Nat → Int32} {E : List (Nat × Nat)} {t : Nat} (h : EL σ g l E) (h24 : E.length < 24) : EL σ (up2 (up2 (up2 (up2 g 67 (24 * l + E.length) (nI r)) 68 (24 * l + E.length) (nI t)) 69 (24 * l + E.length) (nI (ch σ l r t))) 70 (24 * l + E.length) (nI (wh σ l t))) l (E ++ [(r, t)]) := by
  intro i hi
  rw [List.length_append] at hi
  simp only [List.length_cons, List.length_nil, Nat.zero_add] at hi
  by_cases e : i = E.length
  · subst e
    rw [gD_r]
    simp (disch := omega) only [u2_s, u2_n, u2_m]
    exact ⟨trivial, trivial, trivial, trivial⟩
  · rw [gD_l (by omega)]
    simp (disch := omega) only [u2_s, u2_n, u2_m]
    exact h i (by omega)
theorem l_M_options4 (c : M0 σ g0 hj) (hl : l < σ 11 0) (hr : r < σ 2 0) (Kc : ∀ g v6 v7 v8 v9, OI σ g0 g l (ops σ l r ++ (kp σ l r 4).map (fun t => (r, t))) → wp X (d + 4) m_M_options 224 [.ref 51, .int (nI l), .int (nI (on σ l r + (kp σ l r 4).length)), .int (nI r), .int (nI (on σ l r)), .int (nI 4), v6, v7, v8, v9] [] (HP g hj) Q) :
    ∀ (m t : Nat) (g : Nat → Nat → Int32) (v6 v7 v8 v9 : Value), t + m = 4 → OI σ g0 g l (ops σ l r ++ (kp σ l r t).map (fun t => (r, t))) →
    wp X (d + 4) m_M_options 55 [.ref 51, .int (nI l), .int (nI (on σ l r + (kp σ l r t).length)), .int (nI r), .int (nI (on σ l r)), .int (nI t), v6, v7, v8, v9] [] (HP g hj) Q
  | 0, t, g, v6, v7, v8, v9, ht, o => by
    have : t = 4 := by omega
    subst this
    rw [s_M_options_55]
    simp (disch := omega) only [↓s_M_options_57, ↓s_M_options_58, nI_leI, nI_ltI, nI_eq, N_z, nI_add, pk_sub, pk_mul, kL_i, kL_r, kL_d, kL_l, kL_k, kL_f, Option.toList_some, Option.toList_none, List.cons_append, List.nil_append, bI_z, N_and, N_or, N_shl, N_shr, Nat.one_mul, Nat.reduceAdd, lg_cmp_eq, L_and, L_or, bI_1, bI_0, if_true, if_false, reduceIte, N_m1x, ite_not, Nat.le_refl]
    exact Kc g v6 v7 v8 v9 o
  | m + 1, t, g, v6, v7, v8, v9, ht, o => by
    have w := c.1.2.1.1
    have w1 := c.1.2.2.2.1.1
    have c' := OI_M0 c o
    have b1 := on_le (σ := σ) (l := l) r
    have b2 := kp_len (σ := σ) (l := l) r t
    have lenE : (ops σ l r ++ (kp σ l r t).map (fun t => (r, t))).length = on σ l r + (kp σ l r t).length := by
      rw [List.length_append, List.length_map]; rfl
    rw [s_M_options_55]
    simp (disch := first | assumption | omega) only [↓s_M_options_57, ↓s_M_options_58, ↓s_M_options_61, ↓s_M_options_62, ↓s_M_options_63, ↓s_M_options_64, ↓s_M_options_66, ↓s_M_options_69, nI_leI, nI_ltI, nI_eq, N_z, nI_add, pk_sub, pk_mul, kL_i, kL_r, kL_d, kL_l, kL_k, kL_f, Option.toList_some, Option.toList_none, List.cons_append, List.nil_append, bI_z, N_and, N_or, N_shl, N_shr, Nat.one_mul, Nat.reduceAdd, lg_cmp_eq, L_and, L_or, bI_1, bI_0, if_true, if_false, reduceIte, N_m1x, ite_not, c_M_canBe c']
    rw [if_neg (by omega)]
    have e : kp σ l r (t + 1) = if (decide (r < σ 2 0) && cbb σ l r t && !(kp σ l r t).any (lik σ l r t)) = true then kp σ l r t ++ [t] else kp σ l r t := rfl
    by_cases h1 : cb σ l r t
    case neg =>
      rw [if_neg h1]
      rw [if_neg (by intro z; simp only [Bool.and_eq_true] at z; exact h1 z.1.2)] at e
      simp (disch := omega) only [↓s_M_options_218, ↓s_M_options_221, nI_leI, nI_ltI, nI_eq, N_z, nI_add, pk_sub, pk_mul, kL_i, kL_r, kL_d, kL_l, kL_k, kL_f, Option.toList_some, Option.toList_none, List.cons_append, List.nil_append, bI_z, N_and, N_or, N_shl, N_shr, Nat.one_mul, Nat.reduceAdd, lg_cmp_eq, L_and, L_or, bI_1, bI_0, if_true, if_false, reduceIte, N_m1x, ite_not, ← e]
      rw [← e] at o
      exact l_M_options4 c hl hr Kc m (t + 1) g _ _ _ _ (by omega) o
    rw [if_pos h1]
    have hsn := (cb_eq.mp h1).1
    have q1 := ch_lt (σ := σ) l r t
    have q2 := wh_lt c.1 hl t
    simp only [↓s_M_options_72, ↓s_M_options_73, ↓s_M_options_74, ↓s_M_options_75, ↓s_M_options_77, ↓s_M_options_78]
    rw [c_M_cellsOf0 c' hl hr (by omega)]
    simp only [↓s_M_options_81, ↓s_M_options_83, ↓s_M_options_84, ↓s_M_options_85, ↓s_M_options_86, ↓s_M_options_88, ↓s_M_options_89, nI_leI, nI_ltI, nI_eq, N_z, nI_add, pk_sub, pk_mul, kL_i, kL_r, kL_d, kL_l, kL_k, kL_f, Option.toList_some, Option.toList_none, List.cons_append, List.nil_append, bI_z, N_and, N_or, N_shl, N_shr, Nat.one_mul, Nat.reduceAdd, lg_cmp_eq, L_and, L_or, bI_1, bI_0, if_true, if_false, reduceIte, N_m1x, ite_not]
    rw [c_M_cellsOf1 c' hl hr (by omega) hsn]
    simp only [↓s_M_options_92, ↓s_M_options_94, ↓s_M_options_95, ↓s_M_options_97, ↓s_M_options_99, nI_leI, nI_ltI, nI_eq, N_z, nI_add, pk_sub, pk_mul, kL_i, kL_r, kL_d, kL_l, kL_k, kL_f, Option.toList_some, Option.toList_none, List.cons_append, List.nil_append, bI_z, N_and, N_or, N_shl, N_shr, Nat.one_mul, Nat.reduceAdd, lg_cmp_eq, L_and, L_or, bI_1, bI_0, if_true, if_false, reduceIte, N_m1x, ite_not]
    refine (l_M_options5 (P := _) (m := 0) (f := lik σ l r t) (K := kp σ l r t) (by omega) rfl (by omega) q1 q2 ?_ rfl (kp σ l r t).length (by omega)).mpr ?_
    · intro k hk
      have := o.2.2 (on σ l r + k) (by rw [lenE]; omega)
      have e2 : (ops σ l r ++ (kp σ l r t).map (fun t => (r, t))).getD (on σ l r + k) (0, 0) = (r, (kp σ l r t).getD k 0) := by
        rw [List.getD_eq_getElem?_getD, List.getElem?_append_right (by show on σ l r ≤ _; omega), List.getElem?_map]
        rw [show on σ l r + k - (ops σ l r).length = k from by show on σ l r + k - on σ l r = k; omega]
        rw [List.getElem?_eq_getElem hk, List.getD_eq_getElem?_getD, List.getElem?_eq_getElem hk]
        rfl
      rw [e2] at this
      have hm : (kp σ l r t).getD k 0 ∈ kp σ l r t := by
        rw [List.getD_eq_getElem?_getD, List.getElem?_eq_getElem hk]
        exact List.getElem_mem hk
      exact ⟨_, _, ch_lt l r _, wh_lt c.1 hl _, this.2.2.1, this.2.2.2, rfl⟩
    · simp (disch := omega) only [↓s_M_options_159, ↓s_M_options_161, nI_leI, nI_ltI, nI_eq, N_z, nI_add, pk_sub, pk_mul, kL_i, kL_r, kL_d, kL_l, kL_k, kL_f, Option.toList_some, Option.toList_none, List.cons_append, List.nil_append, bI_z, N_and, N_or, N_shl, N_shr, Nat.one_mul, Nat.reduceAdd, lg_cmp_eq, L_and, L_or, bI_1, bI_0, if_true, if_false, reduceIte, N_m1x, ite_not]
      by_cases h2 : (kp σ l r t).any (lik σ l r t) = true
      · rw [if_pos h2]
        rw [if_neg (by intro z; simp only [Bool.and_eq_true, h2] at z; simp at z)] at e
        simp (disch := omega) only [↓s_M_options_218, ↓s_M_options_221, nI_leI, nI_ltI, nI_eq, N_z, nI_add, pk_sub, pk_mul, kL_i, kL_r, kL_d, kL_l, kL_k, kL_f, Option.toList_some, Option.toList_none, List.cons_append, List.nil_append, bI_z, N_and, N_or, N_shl, N_shr, Nat.one_mul, Nat.reduceAdd, lg_cmp_eq, L_and, L_or, bI_1, bI_0, if_true, if_false, reduceIte, N_m1x, ite_not, ← e]
        rw [← e] at o
        exact l_M_options4 c hl hr Kc m (t + 1) g _ _ _ _ (by omega) o
      · rw [if_neg h2]
        rw [if_pos (by simp only [Bool.and_eq_true, decide_eq_true hr]; exact ⟨⟨trivial, h1⟩, by simpa using h2⟩)] at e
        simp (disch := omega) only [↓s_M_options_164, ↓s_M_options_165, ↓s_M_options_168, ↓s_M_options_170, ↓s_M_options_171, ↓s_M_options_172, ↓s_M_options_173, ↓s_M_options_174, ↓s_M_options_175, ↓s_M_options_176, ↓s_M_options_177, ↓s_M_options_180, ↓s_M_options_182, ↓s_M_options_183, ↓s_M_options_184, ↓s_M_options_185, ↓s_M_options_186, ↓s_M_options_188, ↓s_M_options_189, ↓s_M_options_190, ↓s_M_options_193, ↓s_M_options_195, ↓s_M_options_196, ↓s_M_options_197, ↓s_M_options_198, ↓s_M_options_199, ↓s_M_options_201, ↓s_M_options_202, ↓s_M_options_203, ↓s_M_options_206, ↓s_M_options_208, ↓s_M_options_209, ↓s_M_options_210, ↓s_M_options_211, ↓s_M_options_212, ↓s_M_options_214, ↓s_M_options_215, ↓s_M_options_218, ↓s_M_options_221, nI_leI, nI_ltI, nI_eq, N_z, nI_add, pk_sub, pk_mul, kL_i, kL_r, kL_d, kL_l, kL_k, kL_f, Option.toList_some, Option.toList_none, List.cons_append, List.nil_append, bI_z, N_and, N_or, N_shl, N_shr, Nat.one_mul, Nat.reduceAdd, lg_cmp_eq, L_and, L_or, bI_1, bI_0, if_true, if_false, reduceIte, N_m1x, ite_not]
        have el : on σ l r + (kp σ l r t).length + 1 = on σ l r + (kp σ l r (t + 1)).length := by rw [e, List.length_append]; simp; omega
        rw [el]
        refine l_M_options4 c hl hr Kc m (t + 1) _ _ _ _ _ (by omega) ⟨fun k hk => ?_, fun k hk => ?_, ?_⟩
        · simp (disch := omega) only [u2_r]; exact o.1 k hk
        · obtain ⟨y1, y2⟩ := o.2.1 k hk
          refine ⟨by simp (disch := omega) only [u2_s, u2_n, u2_m]; exact y1, fun i hi => ?_⟩
          have := y2 i hi
          have l4 : (ops σ k 6).length ≤ 4 * 6 := on_le 6
          simp (disch := omega) only [u2_s, u2_n, u2_m]
          exact this
        · rw [e, List.map_append, ← List.append_assoc]
          have := EL_app (r := r) (t := t) o.2.2 (by rw [lenE]; omega)
          rw [lenE] at this
          exact this
theorem l_M_options3 (c : M0 σ g0 hj) (hl : l < σ 11 0) (Kc : ∀ g v4 v5 v6 v7 v8 v9, OI σ g0 g l (ops σ l (σ 2 0)) → wp X (d + 4) m_M_options 230 [.ref 51, .int (nI l), .int (nI (on σ l (σ 2 0))), .int (nI (σ 2 0)), v4, v5, v6, v7, v8, v9] [] (HP g hj) Q) :
    ∀ (m r : Nat) (g : Nat → Nat → Int32) (v4 v5 v6 v7 v8 v9 : Value), r + m = σ 2 0 → OI σ g0 g l (ops σ l r) →
    wp X (d + 4) m_M_options 41 [.ref 51, .int (nI l), .int (nI (on σ l r)), .int (nI r), v4, v5, v6, v7, v8, v9] [] (HP g hj) Q
  | 0, r, g, v4, v5, v6, v7, v8, v9, hr, o => by
    have w := c.1.2.1.1
    have e0 := (OI_M0 c o).2.1.1
    have : r = σ 2 0 := by omega
    subst this
    rw [s_M_options_41]
    simp (disch := omega) only [↓s_M_options_42, ↓s_M_options_43, ↓s_M_options_46, nI_leI, nI_ltI, nI_eq, N_z, nI_add, pk_sub, pk_mul, kL_i, kL_r, kL_d, kL_l, kL_k, kL_f, Option.toList_some, Option.toList_none, List.cons_append, List.nil_append, bI_z, N_and, N_or, N_shl, N_shr, Nat.one_mul, Nat.reduceAdd, lg_cmp_eq, L_and, L_or, bI_1, bI_0, if_true, if_false, reduceIte, N_m1x, ite_not, e0, Nat.le_refl]
    exact Kc g _ _ _ _ _ _ o
  | m + 1, r, g, v4, v5, v6, v7, v8, v9, hr, o => by
    have w := c.1.2.1.1
    have e0 := (OI_M0 c o).2.1.1
    rw [s_M_options_41]
    simp (disch := omega) only [↓s_M_options_42, ↓s_M_options_43, ↓s_M_options_46, ↓s_M_options_49, ↓s_M_options_50, ↓s_M_options_52, ↓s_M_options_53, nI_leI, nI_ltI, nI_eq, N_z, nI_add, pk_sub, pk_mul, kL_i, kL_r, kL_d, kL_l, kL_k, kL_f, Option.toList_some, Option.toList_none, List.cons_append, List.nil_append, bI_z, N_and, N_or, N_shl, N_shr, Nat.one_mul, Nat.reduceAdd, lg_cmp_eq, L_and, L_or, bI_1, bI_0, if_true, if_false, reduceIte, N_m1x, ite_not, e0]
    rw [if_neg (by omega)]
    have ek : kp σ l r 0 = [] := rfl
    have := l_M_options4 (X := X) (d := d) (Q := Q) (hj := hj) (g0 := g0) c hl (r := r) (by omega) (fun g v6 v7 v8 v9 o2 => ?_) 4 0 g v6 v7 v8 v9 rfl (by rw [ek, List.map_nil, List.append_nil]; exact o)
    · rw [ek] at this
      exact this
    · simp (disch := omega) only [↓s_M_options_224, ↓s_M_options_227, nI_leI, nI_ltI, nI_eq, N_z, nI_add, pk_sub, pk_mul, kL_i, kL_r, kL_d, kL_l, kL_k, kL_f, Option.toList_some, Option.toList_none, List.cons_append, List.nil_append, bI_z, N_and, N_or, N_shl, N_shr, Nat.one_mul, Nat.reduceAdd, lg_cmp_eq, L_and, L_or, bI_1, bI_0, if_true, if_false, reduceIte, N_m1x, ite_not]
      rw [← on_s]
      exact l_M_options3 c hl Kc m (r + 1) g _ _ _ _ _ _ (by omega) o2
theorem l_M_options2 (c : M0 σ g0 hj) (Kc : ∀ g, OI σ g0 g (σ 11 0) [] → Q none (HP g hj)) :
    ∀ (m l : Nat) (g : Nat → Nat → Int32) (v2 v3 v4 v5 v6 v7 v8 v9 : Value), l + m = σ 11 0 → OI σ g0 g l [] →
    wp X (d + 4) m_M_options 29 [.ref 51, .int (nI l), v2, v3, v4, v5, v6, v7, v8, v9] [] (HP g hj) Q
  | 0, l, g, v2, v3, v4, v5, v6, v7, v8, v9, hl, o => by
    have w := c.1.2.2.2.1.1
    have e0 := (OI_M0 c o).2.2.2.1
    have : l = σ 11 0 := by omega
    subst this
    rw [s_M_options_29]
    simp (disch := omega) only [↓s_M_options_30, ↓s_M_options_31, ↓s_M_options_34, ↓s_M_options_243, nI_leI, nI_ltI, nI_eq, N_z, nI_add, pk_sub, pk_mul, kL_i, kL_r, kL_d, kL_l, kL_k, kL_f, Option.toList_some, Option.toList_none, List.cons_append, List.nil_append, bI_z, N_and, N_or, N_shl, N_shr, Nat.one_mul, Nat.reduceAdd, lg_cmp_eq, L_and, L_or, bI_1, bI_0, if_true, if_false, reduceIte, N_m1x, ite_not, e0, Nat.le_refl]
    exact Kc g o
  | m + 1, l, g, v2, v3, v4, v5, v6, v7, v8, v9, hl, o => by
    have w := c.1.2.2.2.1.1
    have w2 := c.1.2.1.1
    have e0 := (OI_M0 c o).2.2.2.1
    rw [s_M_options_29]
    simp (disch := omega) only [↓s_M_options_30, ↓s_M_options_31, ↓s_M_options_34, ↓s_M_options_37, ↓s_M_options_38, ↓s_M_options_39, ↓s_M_options_40, nI_leI, nI_ltI, nI_eq, N_z, nI_add, pk_sub, pk_mul, kL_i, kL_r, kL_d, kL_l, kL_k, kL_f, Option.toList_some, Option.toList_none, List.cons_append, List.nil_append, bI_z, N_and, N_or, N_shl, N_shr, Nat.one_mul, Nat.reduceAdd, lg_cmp_eq, L_and, L_or, bI_1, bI_0, if_true, if_false, reduceIte, N_m1x, ite_not, e0]
    rw [if_neg (by omega)]
    refine l_M_options3 c (by omega) (fun g v4 v5 v6 v7 v8 v9 o2 => ?_) (σ 2 0) 0 g _ _ _ _ _ _ (by omega) o
    simp (disch := omega) only [↓s_M_options_230, ↓s_M_options_231, ↓s_M_options_234, ↓s_M_options_235, ↓s_M_options_236, ↓s_M_options_237, ↓s_M_options_240, nI_leI, nI_ltI, nI_eq, N_z, nI_add, pk_sub, pk_mul, kL_i, kL_r, kL_d, kL_l, kL_k, kL_f, Option.toList_some, Option.toList_none, List.cons_append, List.nil_append, bI_z, N_and, N_or, N_shl, N_shr, Nat.one_mul, Nat.reduceAdd, lg_cmp_eq, L_and, L_or, bI_1, bI_0, if_true, if_false, reduceIte, N_m1x, ite_not]
    refine l_M_options2 c Kc m (l + 1) _ _ _ _ _ _ _ _ _ (by omega) ⟨fun k hk => ?_, fun k hk => ?_, fun i hi => by simp at hi⟩
    · simp (disch := omega) only [u2_r]; exact o2.1 k hk
    · by_cases e : k = l
      · subst e
        rw [u2_s]
        refine ⟨by unfold on; rw [ops_6 w2], fun i hi => ?_⟩
        rw [← ops_6 w2] at hi ⊢
        have := o2.2.2 i hi
        simp (disch := omega) only [u2_n]
        exact this
      · obtain ⟨y1, y2⟩ := o2.2.1 k (by omega)
        rw [u2_m _ _ _ _ e]
        refine ⟨y1, fun i hi => ?_⟩
        have := y2 i hi
        simp (disch := omega) only [u2_n]
        exact this
theorem l_M_options1 (c : M0 σ g0 hj) {v2 v3 v4 v5 v6 v7 v8 v9 : Value} (Kc : ∀ hj2 v1, (∀ k, k ≠ 71 → hj2 k = hj k) → (∀ r, r < σ 2 0 → hj2 71 r = lN (dys σ r)) → wp X (d + 4) m_M_options 27 [.ref 51, v1, v2, v3, v4, v5, v6, v7, v8, v9] [] (HP g0 hj2) Q) :
    ∀ (m r : Nat) (hj2 : Nat → Nat → Int64), r + m = σ 2 0 → (∀ k, k ≠ 71 → hj2 k = hj k) → (∀ x, x < r → hj2 71 x = lN (dys σ x)) →
    wp X (d + 4) m_M_options 2 [.ref 51, .int (nI r), v2, v3, v4, v5, v6, v7, v8, v9] [] (HP g0 hj2) Q
  | 0, r, hj2, hr, e1, e2 => by
    have w := c.1.2.1.1
    have e0 := c.2.1.1
    have : r = σ 2 0 := by omega
    subst this
    rw [s_M_options_2]
    simp (disch := omega) only [↓s_M_options_3, ↓s_M_options_4, ↓s_M_options_7, nI_leI, nI_ltI, nI_eq, N_z, nI_add, pk_sub, pk_mul, kL_i, kL_r, kL_d, kL_l, kL_k, kL_f, Option.toList_some, Option.toList_none, List.cons_append, List.nil_append, bI_z, N_and, N_or, N_shl, N_shr, Nat.one_mul, Nat.reduceAdd, lg_cmp_eq, L_and, L_or, bI_1, bI_0, if_true, if_false, reduceIte, N_m1x, ite_not, e0, Nat.le_refl]
    exact Kc hj2 _ e1 e2
  | m + 1, r, hj2, hr, e1, e2 => by
    have w := c.1.2.1.1
    have e0 := c.2.1.1
    rw [s_M_options_2]
    simp (disch := omega) only [↓s_M_options_3, ↓s_M_options_4, ↓s_M_options_7, ↓s_M_options_10, ↓s_M_options_11, ↓s_M_options_14, ↓s_M_options_15, ↓s_M_options_16, ↓s_M_options_17, ↓s_M_options_20, ↓s_M_options_21, ↓s_M_options_24, nI_leI, nI_ltI, nI_eq, N_z, nI_add, pk_sub, pk_mul, kL_i, kL_r, kL_d, kL_l, kL_k, kL_f, Option.toList_some, Option.toList_none, List.cons_append, List.nil_append, bI_z, N_and, N_or, N_shl, N_shr, Nat.one_mul, Nat.reduceAdd, lg_cmp_eq, L_and, L_or, bI_1, bI_0, if_true, if_false, reduceIte, N_m1x, ite_not, e0, c_M_daysOf c.1 c.2.1 c.2.2.1]
    rw [if_neg (by omega)]
    refine l_M_options1 c Kc m (r + 1) _ (by omega) (fun k hk => ?_) (fun x hx => ?_)
    · simp (disch := omega) only [u2_r]; exact e1 k hk
    · by_cases e : x = r
      · subst e; rw [u2_s]
      · rw [u2_m _ _ _ _ e]; exact e2 x (by omega)
theorem c_M_options (c : M0 σ g0 hj) (Kc : ∀ g hj2, (∀ k, k ≤ 65 ∨ 71 ≤ k → g k = g0 k) → (∀ k, k ≠ 71 → hj2 k = hj k) → rdOp g hj2 σ → Q none (HP g hj2)) : cwp X (d + 4) m_M_options [.ref 51] (HP g0 hj) Q := by
  simp only [e_M_options, ↓s_M_options_0, ↓s_M_options_1, kL_r]
  refine l_M_options1 c (fun hj2 v1 f1 f2 => ?_) (σ 2 0) 0 hj (by omega) (fun _ _ => rfl) (fun x hx => by omega)
  simp only [↓s_M_options_27, ↓s_M_options_28, kL_r]
  have c' : M0 σ g0 hj2 := M0_cg c rfl rfl rfl rfl (fun _ _ _ => rfl)
  refine l_M_options2 c' (fun g o => ?_) (σ 11 0) 0 g0 _ _ _ _ _ _ _ _ (by omega) ⟨fun _ _ => rfl, fun k hk => by omega, fun i hi => by simp at hi⟩
  refine Kc g hj2 o.1 f1 ⟨fun l hl => ?_, f2⟩
  obtain ⟨y1, y2⟩ := o.2.1 l hl
  refine ⟨y1, fun i hi => ?_⟩
  obtain ⟨z1, z2, z3, z4⟩ := y2 i hi
  exact ⟨z1, z2, z3, z4⟩
end MOPT
