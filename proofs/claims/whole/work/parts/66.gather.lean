/-! the class gathers its choices -/
theorem bas_app {σ : ST} {Ls Ms : List Nat} : ∀ p, p ≤ Ls.length → bas σ (Ls ++ Ms) p = bas σ Ls p
  | 0, _ => rfl
  | p + 1, h => by
    unfold bas
    rw [bas_app p (by omega), gD_l (by omega)]
theorem bas_le {σ : ST} {Ls : List Nat} : ∀ p, bas σ Ls p ≤ 24 * p
  | 0 => Nat.le_refl 0
  | p + 1 => by
    have h1 := bas_le (σ := σ) (Ls := Ls) p
    have h2 := on_le (σ := σ) (l := Ls.getD p 0) 6
    unfold bas
    omega
/-- entries from B on -/
def EC (σ : ST) (g : Nat → Nat → Int32) (hj : Nat → Nat → Int64) (B l : Nat) (E : List (Nat × Nat)) : Prop := ∀ i, i < E.length → g 27 (B + i) = nI (E.getD i (0, 0)).1 ∧ g 28 (B + i) = nI (E.getD i (0, 0)).2 ∧ g 29 (B + i) = nI (wh σ l (E.getD i (0, 0)).2) ∧ g 30 (B + i) = nI (ch σ l (E.getD i (0, 0)).1 (E.getD i (0, 0)).2) ∧ hj 31 (B + i) = lN (dd σ l (E.getD i (0, 0)).1)
def rdC1 (σ : ST) (g : Nat → Nat → Int32) (hj : Nat → Nat → Int64) (Ls : List Nat) : Prop := ∀ p, p < Ls.length → g 25 p = nI (Ls.getD p 0) ∧ (∀ r, r < 6 → g 26 (p * 6 + r) = nI (bas σ Ls p + on σ (Ls.getD p 0) r)) ∧ EC σ g hj (bas σ Ls p) (Ls.getD p 0) (ops σ (Ls.getD p 0) 6)
def Fr24 (g0 g : Nat → Nat → Int32) (hj0 hj : Nat → Nat → Int64) : Prop := (∀ k, k < 24 ∨ 31 ≤ k → g k = g0 k) ∧ ∀ k, k ≠ 31 → hj k = hj0 k
section GATH
variable {X : AX} {d : Nat} {Q : Option Value → AH → Prop} {g0 : Nat → Nat → Int32} {hj0 : Nat → Nat → Int64} {σ : ST} {l r : Nat}
theorem Fr24_C0 {g : Nat → Nat → Int32} {hj : Nat → Nat → Int64} (c : C0 σ g0 hj0) (f : Fr24 g0 g hj0 hj) : C0 σ g hj := C0_cg c (fun k _ _ => f.1 k (by omega)) (f.2 9 (by omega))
theorem l_isLike {T F A B : Nat} {f : Nat → Bool} {g : Nat → Nat → Int32} {hj : Nat → Nat → Int64} {K : List Nat} (hF : F + K.length = T) (hT : T < 192) (e0 : g 24 9 = nI T) (hA : A < 65536) (hB : B < 65536) (eA : g 29 T = nI A) (eB : g 30 T = nI B)
    (hf : ∀ m, m < K.length → ∃ x y, x < 65536 ∧ y < 65536 ∧ g 29 (F + m) = nI x ∧ g 30 (F + m) = nI y ∧ f (K.getD m 0) = decide (y = B ∧ x = A)) :
    ∀ (c m : Nat), m + c = K.length → wp X d m_Choices_isLikeOneFrom 2 [.ref 24, .int (nI F), .int (nI (F + m))] [] (HP g hj) Q = Q (some (.int (bI ((K.drop m).any f = true)))) (HP g hj)
  | 0, m, hm => by
    have : m = K.length := by omega
    subst this
    rw [s_Choices_isLikeOneFrom_2]
    simp (disch := omega) only [↓s_Choices_isLikeOneFrom_3, ↓s_Choices_isLikeOneFrom_4, ↓s_Choices_isLikeOneFrom_7, ↓s_Choices_isLikeOneFrom_54, ↓s_Choices_isLikeOneFrom_55_0, ↓s_Choices_isLikeOneFrom_55_1, ↓s_Choices_isLikeOneFrom_55_b, nI_leI, nI_ltI, nI_eq, N_z, nI_add, pk_sub, pk_mul, kL_i, kL_r, kL_d, kL_l, kL_k, kL_f, Option.toList_some, Option.toList_none, List.cons_append, List.nil_append, bI_z, N_and, N_or, N_shl, N_shr, Nat.one_mul, Nat.reduceAdd, lg_cmp_eq, L_and, L_or, bI_1, bI_0, if_true, if_false, reduceIte, N_m1x, ite_not, e0]
    rw [if_pos (by omega), List.drop_length, bI_f (by simp)]
  | c + 1, m, hm => by
    obtain ⟨x, y, hx, hy, e1, e2, e3⟩ := hf m (by omega)
    have hm2 : m < K.length := by omega
    have ed : (K.drop m).any f = (f (K.getD m 0) || (K.drop (m + 1)).any f) := by
      rw [drop_s hm2, List.any_cons]
    have ih := l_isLike (hj := hj) hF hT e0 hA hB eA eB hf c (m + 1) (by omega)
    rw [s_Choices_isLikeOneFrom_2]
    simp (disch := omega) only [↓s_Choices_isLikeOneFrom_3, ↓s_Choices_isLikeOneFrom_4, ↓s_Choices_isLikeOneFrom_7, ↓s_Choices_isLikeOneFrom_10, ↓s_Choices_isLikeOneFrom_11, ↓s_Choices_isLikeOneFrom_14, ↓s_Choices_isLikeOneFrom_15, ↓s_Choices_isLikeOneFrom_16, ↓s_Choices_isLikeOneFrom_17, ↓s_Choices_isLikeOneFrom_20, ↓s_Choices_isLikeOneFrom_21, ↓s_Choices_isLikeOneFrom_24, ↓s_Choices_isLikeOneFrom_25, ↓s_Choices_isLikeOneFrom_28, ↓s_Choices_isLikeOneFrom_29, ↓s_Choices_isLikeOneFrom_32, ↓s_Choices_isLikeOneFrom_33, ↓s_Choices_isLikeOneFrom_34, ↓s_Choices_isLikeOneFrom_35, ↓s_Choices_isLikeOneFrom_38, ↓s_Choices_isLikeOneFrom_39, ↓s_Choices_isLikeOneFrom_42, ↓s_Choices_isLikeOneFrom_43, ↓s_Choices_isLikeOneFrom_46, ↓s_Choices_isLikeOneFrom_47_0, ↓s_Choices_isLikeOneFrom_47_1, ↓s_Choices_isLikeOneFrom_47_b, ↓s_Choices_isLikeOneFrom_48, ↓s_Choices_isLikeOneFrom_51, nI_leI, nI_ltI, nI_eq, N_z, nI_add, pk_sub, pk_mul, kL_i, kL_r, kL_d, kL_l, kL_k, kL_f, Option.toList_some, Option.toList_none, List.cons_append, List.nil_append, bI_z, N_and, N_or, N_shl, N_shr, Nat.one_mul, Nat.reduceAdd, lg_cmp_eq, L_and, L_or, bI_1, bI_0, if_true, if_false, reduceIte, N_m1x, ite_not, e0, e1, e2, eA, eB, Nat.add_assoc]
    rw [if_neg (by omega), ed, e3]
    by_cases h1 : x = A
    · rw [if_pos h1]
      by_cases h2 : y = B
      · rw [if_pos h2, bI_t (by simp [h1, h2])]
      · rw [if_neg h2, ih]
        have : decide (y = B ∧ x = A) = false := by simp [h2]
        rw [this, Bool.false_or]
    · rw [if_neg h1, ih]
      have : decide (y = B ∧ x = A) = false := by simp [h1]
      rw [this, Bool.false_or]
theorem EC_app {g : Nat → Nat → Int32} {hj : Nat → Nat → Int64} {E : List (Nat × Nat)} {B t : Nat} (h : EC σ g hj B l E) (e1 : g 27 (B + E.length) = nI r) (e2 : g 28 (B + E.length) = nI t) (e3 : g 29 (B + E.length) = nI (wh σ l t)) (e4 : g 30 (B + E.length) = nI (ch σ l r t)) (e5 : hj 31 (B + E.length) = lN (dd σ l r)) : EC σ g hj B l (E ++ [(r, t)]) := by
  intro i hi
  rw [List.length_append] at hi
  simp only [List.length_cons, List.length_nil, Nat.zero_add] at hi
  by_cases e : i = E.length
  · subst e
    rw [gD_r]
    exact ⟨e1, e2, e3, e4, e5⟩
  · rw [gD_l (by omega)]
    exact h i (by omega)
/-- while the turns of one lump and one ring are gathered -/
def GT (σ : ST) (g0 g : Nat → Nat → Int32) (hj0 hj : Nat → Nat → Int64) (B l : Nat) (E : List (Nat × Nat)) : Prop := Fr24 g0 g hj0 hj ∧ g 24 9 = nI (B + E.length) ∧ g 24 2 = g0 24 2 ∧ g 25 = g0 25 ∧ g 26 = g0 26 ∧ EC σ g hj B l E ∧ (∀ x, x < B → g 27 x = g0 27 x ∧ g 28 x = g0 28 x ∧ g 29 x = g0 29 x ∧ g 30 x = g0 30 x ∧ hj 31 x = hj0 31 x)
theorem l_gatherTurns {B : Nat} (c : C0 σ g0 hj0) (hl : l < σ 11 0) (hr : r < σ 2 0) (hr6 : r < 6) (hdd : dd σ l r ≠ 0) (hB : B ≤ 168) (Kc : ∀ g hj, GT σ g0 g hj0 hj B l (ops σ l r ++ (kp σ l r 4).map (fun t => (r, t))) → Q none (HP g hj)) :
    ∀ (m t : Nat) (g : Nat → Nat → Int32) (hj : Nat → Nat → Int64), t + m = 4 → GT σ g0 g hj0 hj B l (ops σ l r ++ (kp σ l r t).map (fun t => (r, t))) →
    wp X (d + 2) m_Choices_gatherTurns 9 [.ref 24, .int (nI l), .int (nI r), .long (lN (dd σ l r)), DUM, .int (nI (B + on σ l r)), .int (nI t)] [] (HP g hj) Q
  | 0, t, g, hj, ht, o => by
    have : t = 4 := by omega
    subst this
    rw [s_Choices_gatherTurns_9]
    simp (disch := omega) only [↓s_Choices_gatherTurns_11, ↓s_Choices_gatherTurns_12, ↓s_Choices_gatherTurns_138, nI_leI, nI_ltI, nI_eq, N_z, nI_add, pk_sub, pk_mul, kL_i, kL_r, kL_d, kL_l, kL_k, kL_f, Option.toList_some, Option.toList_none, List.cons_append, List.nil_append, bI_z, N_and, N_or, N_shl, N_shr, Nat.one_mul, Nat.reduceAdd, lg_cmp_eq, L_and, L_or, bI_1, bI_0, if_true, if_false, reduceIte, N_m1x, ite_not, Nat.le_refl]
    exact Kc g hj o
  | m + 1, t, g, hj, ht, o => by
    obtain ⟨o1, o2, o3, o4, o5, o6, o7⟩ := id o
    have w := c.1.2.1.1
    have w1 := c.1.2.2.2.1.1
    have c' := Fr24_C0 c o1
    have b1 := on_le (σ := σ) (l := l) r
    have b2 := kp_len (σ := σ) (l := l) r t
    have lenE : (ops σ l r ++ (kp σ l r t).map (fun t => (r, t))).length = on σ l r + (kp σ l r t).length := by
      rw [List.length_append, List.length_map]; rfl
    rw [lenE] at o2
    have q1 := ch_lt (σ := σ) l r t
    have q2 := wh_lt c.1 hl t
    have e : kp σ l r (t + 1) = if (decide (r < σ 2 0) && cbb σ l r t && !(kp σ l r t).any (lik σ l r t)) = true then kp σ l r t ++ [t] else kp σ l r t := rfl
    rw [s_Choices_gatherTurns_9]
    simp (disch := first | assumption | omega) only [↓s_Choices_gatherTurns_11, ↓s_Choices_gatherTurns_12, ↓s_Choices_gatherTurns_15, ↓s_Choices_gatherTurns_16, ↓s_Choices_gatherTurns_19, ↓s_Choices_gatherTurns_20, ↓s_Choices_gatherTurns_21, ↓s_Choices_gatherTurns_23, ↓s_Choices_gatherTurns_26, ↓s_Choices_gatherTurns_29, ↓s_Choices_gatherTurns_30, ↓s_Choices_gatherTurns_33, ↓s_Choices_gatherTurns_36, nI_leI, nI_ltI, nI_eq, N_z, nI_add, pk_sub, pk_mul, kL_i, kL_r, kL_d, kL_l, kL_k, kL_f, Option.toList_some, Option.toList_none, List.cons_append, List.nil_append, bI_z, N_and, N_or, N_shl, N_shr, Nat.one_mul, Nat.reduceAdd, lg_cmp_eq, L_and, L_or, bI_1, bI_0, if_true, if_false, reduceIte, N_m1x, ite_not, c_Matches_showsNoOther c', o2]
    rw [if_neg (by omega), if_neg (show ¬ 192 ≤ B + (on σ l r + (kp σ l r t).length) by omega)]
    by_cases hs : sno σ l r t
    case neg =>
      rw [if_neg hs]
      rw [if_neg (by intro z; simp only [Bool.and_eq_true] at z; exact hs (cb_eq.mp z.1.2).1)] at e
      simp (disch := omega) only [↓s_Choices_gatherTurns_132, ↓s_Choices_gatherTurns_135, nI_leI, nI_ltI, nI_eq, N_z, nI_add, pk_sub, pk_mul, kL_i, kL_r, kL_d, kL_l, kL_k, kL_f, Option.toList_some, Option.toList_none, List.cons_append, List.nil_append, bI_z, N_and, N_or, N_shl, N_shr, Nat.one_mul, Nat.reduceAdd, lg_cmp_eq, L_and, L_or, bI_1, bI_0, if_true, if_false, reduceIte, N_m1x, ite_not]
      rw [← e] at o
      exact l_gatherTurns c hl hr hr6 hdd hB Kc m (t + 1) g hj (by omega) o
    rw [if_pos hs]
    have hcb : cb σ l r t := cb_eq.mpr ⟨hs, hdd⟩
    -- what is laid down
    have c1 : C0 σ (up2 (up2 g 27 (B + (on σ l r + (kp σ l r t).length)) (nI r)) 28 (B + (on σ l r + (kp σ l r t).length)) (nI t)) hj := C0_cg c' (fun k h1 h2 => by simp (disch := omega) only [u2_r]) rfl
    have c2 : C0 σ (up2 (up2 (up2 g 27 (B + (on σ l r + (kp σ l r t).length)) (nI r)) 28 (B + (on σ l r + (kp σ l r t).length)) (nI t)) 29 (B + (on σ l r + (kp σ l r t).length)) (nI (wh σ l t))) hj := C0_cg c' (fun k h1 h2 => by simp (disch := omega) only [u2_r]) rfl
    simp (disch := first | assumption | omega) only [↓s_Choices_gatherTurns_39, ↓s_Choices_gatherTurns_40, ↓s_Choices_gatherTurns_43, ↓s_Choices_gatherTurns_44, ↓s_Choices_gatherTurns_47, ↓s_Choices_gatherTurns_48, ↓s_Choices_gatherTurns_49, ↓s_Choices_gatherTurns_50, ↓s_Choices_gatherTurns_53, ↓s_Choices_gatherTurns_54, ↓s_Choices_gatherTurns_57, ↓s_Choices_gatherTurns_59, ↓s_Choices_gatherTurns_60, ↓s_Choices_gatherTurns_61, ↓s_Choices_gatherTurns_64, ↓s_Choices_gatherTurns_65, ↓s_Choices_gatherTurns_68, ↓s_Choices_gatherTurns_69, ↓s_Choices_gatherTurns_72, ↓s_Choices_gatherTurns_73, ↓s_Choices_gatherTurns_75, ↓s_Choices_gatherTurns_78, ↓s_Choices_gatherTurns_79, ↓s_Choices_gatherTurns_80, ↓s_Choices_gatherTurns_83, ↓s_Choices_gatherTurns_84, ↓s_Choices_gatherTurns_87, ↓s_Choices_gatherTurns_88, ↓s_Choices_gatherTurns_91, ↓s_Choices_gatherTurns_92, ↓s_Choices_gatherTurns_93, ↓s_Choices_gatherTurns_95, ↓s_Choices_gatherTurns_98, ↓s_Choices_gatherTurns_99, ↓s_Choices_gatherTurns_100, ↓s_Choices_gatherTurns_103, ↓s_Choices_gatherTurns_104, ↓s_Choices_gatherTurns_107, ↓s_Choices_gatherTurns_108, nI_leI, nI_ltI, nI_eq, N_z, nI_add, pk_sub, pk_mul, kL_i, kL_r, kL_d, kL_l, kL_k, kL_f, Option.toList_some, Option.toList_none, List.cons_append, List.nil_append, bI_z, N_and, N_or, N_shl, N_shr, Nat.one_mul, Nat.reduceAdd, lg_cmp_eq, L_and, L_or, bI_1, bI_0, if_true, if_false, reduceIte, N_m1x, ite_not, u2_s, u2_n, u2_m, o2, c_Matches_whole c1, c_Matches_chipped c2]
    simp (disch := first | assumption | omega) only [↓s_Choices_gatherTurns_109, ↓s_Choices_gatherTurns_110, ↓s_Choices_gatherTurns_111, ↓s_Choices_gatherTurns_114, ↓s_Choices_gatherTurns_115, ↓s_Choices_gatherTurns_117, u2_s, u2_n, u2_m, o2, e_Choices_isLikeOneFrom, ↓s_Choices_isLikeOneFrom_0, ↓s_Choices_isLikeOneFrom_1, kL_i]
    have lk := fun Q' => l_isLike (X := X) (d := d + 1) (Q := Q') (f := lik σ l r t) (K := kp σ l r t) (F := B + on σ l r) (T := B + (on σ l r + (kp σ l r t).length)) (A := wh σ l t) (B := ch σ l r t) (g := up2 (up2 (up2 (up2 g 27 (B + (on σ l r + (kp σ l r t).length)) (nI r)) 28 (B + (on σ l r + (kp σ l r t).length)) (nI t)) 29 (B + (on σ l r + (kp σ l r t).length)) (nI (wh σ l t))) 30 (B + (on σ l r + (kp σ l r t).length)) (nI (ch σ l r t))) (hj := up2 hj 31 (B + (on σ l r + (kp σ l r t).length)) (lN (dd σ l r)))
      (by omega) (by omega) (by simp (disch := omega) only [u2_s, u2_n, u2_m]; exact o2) q2 q1 (by simp (disch := omega) only [u2_s, u2_n, u2_m]) (by simp (disch := omega) only [u2_s, u2_n, u2_m]) (fun k hk => by
        have h1 := o6 (on σ l r + k) (by rw [lenE]; omega)
        have e2 : (ops σ l r ++ (kp σ l r t).map (fun t => (r, t))).getD (on σ l r + k) (0, 0) = (r, (kp σ l r t).getD k 0) := by
          rw [List.getD_eq_getElem?_getD, List.getElem?_append_right (by show on σ l r ≤ _; omega), List.getElem?_map]
          rw [show on σ l r + k - (ops σ l r).length = k from by show on σ l r + k - on σ l r = k; omega]
          rw [List.getElem?_eq_getElem hk, List.getD_eq_getElem?_getD, List.getElem?_eq_getElem hk]
          rfl
        rw [e2] at h1
        refine ⟨wh σ l ((kp σ l r t).getD k 0), ch σ l r ((kp σ l r t).getD k 0), wh_lt c.1 hl _, ch_lt l r _, ?_, ?_, rfl⟩
        · simp (disch := omega) only [u2_s, u2_n, u2_m]; rw [Nat.add_assoc]; exact h1.2.2.1
        · simp (disch := omega) only [u2_s, u2_n, u2_m]; rw [Nat.add_assoc]; exact h1.2.2.2.1) (kp σ l r t).length 0 (by omega)
    simp only [Nat.add_zero, List.drop_zero] at lk
    rw [lk]
    simp (disch := omega) only [↓s_Choices_gatherTurns_120, ↓s_Choices_gatherTurns_123, ↓s_Choices_gatherTurns_124, ↓s_Choices_gatherTurns_127, ↓s_Choices_gatherTurns_128, ↓s_Choices_gatherTurns_129, ↓s_Choices_gatherTurns_132, ↓s_Choices_gatherTurns_135, nI_leI, nI_ltI, nI_eq, N_z, nI_add, pk_sub, pk_mul, kL_i, kL_r, kL_d, kL_l, kL_k, kL_f, Option.toList_some, Option.toList_none, List.cons_append, List.nil_append, bI_z, N_and, N_or, N_shl, N_shr, Nat.one_mul, Nat.reduceAdd, lg_cmp_eq, L_and, L_or, bI_1, bI_0, if_true, if_false, reduceIte, N_m1x, ite_not]
    by_cases h2 : (kp σ l r t).any (lik σ l r t) = true
    · rw [if_pos h2]
      rw [if_neg (by intro z; simp only [Bool.and_eq_true, h2] at z; simp at z)] at e
      refine l_gatherTurns c hl hr hr6 hdd hB Kc m (t + 1) _ _ (by omega) ⟨⟨fun k hk => ?_, fun k hk => ?_⟩, ?_, ?_, ?_, ?_, ?_, fun x hx => ?_⟩
      · simp (disch := omega) only [u2_r]; exact o1.1 k hk
      · simp (disch := omega) only [u2_r]; exact o1.2 k hk
      · rw [u2_s, e, lenE, Nat.add_zero]
      · simp (disch := omega) only [u2_s, u2_n, u2_m]; exact o3
      · simp (disch := omega) only [u2_r]; exact o4
      · simp (disch := omega) only [u2_r]; exact o5
      · rw [e]
        intro i hi
        have h3 := o6 i hi
        rw [lenE] at hi
        simp (disch := omega) only [u2_s, u2_n, u2_m]
        exact h3
      · simp (disch := omega) only [u2_s, u2_n, u2_m]; exact o7 x hx
    · rw [if_neg h2]
      rw [if_pos (by simp only [Bool.and_eq_true, decide_eq_true hr]; exact ⟨⟨trivial, hcb⟩, by simpa using h2⟩)] at e
      refine l_gatherTurns c hl hr hr6 hdd hB Kc m (t + 1) _ _ (by omega) ⟨⟨fun k hk => ?_, fun k hk => ?_⟩, ?_, ?_, ?_, ?_, ?_, fun x hx => ?_⟩
      · simp (disch := omega) only [u2_r]; exact o1.1 k hk
      · simp (disch := omega) only [u2_r]; exact o1.2 k hk
      · rw [u2_s, e, List.map_append, ← List.append_assoc, List.length_append, lenE]
        rfl
      · simp (disch := omega) only [u2_s, u2_n, u2_m]; exact o3
      · simp (disch := omega) only [u2_r]; exact o4
      · simp (disch := omega) only [u2_r]; exact o5
      · rw [e, List.map_append, ← List.append_assoc]
        refine EC_app (fun i hi => ?_) ?_ ?_ ?_ ?_ ?_
        · have h3 := o6 i hi
          rw [lenE] at hi
          simp (disch := omega) only [u2_s, u2_n, u2_m]
          exact h3
        · rw [lenE]; simp (disch := omega) only [u2_s, u2_n, u2_m]
        · rw [lenE]; simp (disch := omega) only [u2_s, u2_n, u2_m]
        · rw [lenE]; simp (disch := omega) only [u2_s, u2_n, u2_m]
        · rw [lenE]; simp (disch := omega) only [u2_s, u2_n, u2_m]
        · rw [lenE]; simp (disch := omega) only [u2_s, u2_n, u2_m]
      · simp (disch := omega) only [u2_s, u2_n, u2_m]; exact o7 x hx
end GATH
