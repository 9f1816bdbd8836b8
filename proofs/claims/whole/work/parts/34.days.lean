/-! days as bits -/
theorem spn_lt {f t : Nat} (h : t < 60) : spn f t < 1152921504606846976 := by
  unfold spn
  by_cases hf : f ≤ t
  · have h1 : 2 ^ (t + 1 - f) * 2 ^ f = 2 ^ (t + 1) := by rw [← Nat.pow_add]; congr 1; omega
    have h2 : 2 ^ (t + 1) ≤ 2 ^ 60 := Nat.pow_le_pow_right (by omega) (by omega)
    have h3 : 0 < 2 ^ f := Nat.two_pow_pos f
    rw [Nat.sub_mul, h1]
    omega
  · rw [show t + 1 - f = 0 by omega]
    simp
theorem spn_tb (f t i : Nat) : (spn f t).testBit i = decide (f ≤ i ∧ i ≤ t) := by
  unfold spn
  rw [Nat.testBit_mul_two_pow, Nat.testBit_two_pow_sub_one]
  by_cases h1 : f ≤ i
  · by_cases h2 : i ≤ t
    · simp [h1, h2, show i - f < t + 1 - f by omega]
    · simp [h1, h2, show ¬ i - f < t + 1 - f by omega]
  · simp [h1]
theorem and_days {a : Nat} (h : a < 1152921504606846976) : a &&& spn 0 59 = a := by
  rw [show spn 0 59 = 2 ^ 60 - 1 from by decide +kernel, Nat.and_two_pow_sub_one_eq_mod]
  exact Nat.mod_eq_of_lt h
def hd (σ : ST) (x : Nat) : Nat → Nat
  | 0 => 0
  | n + 1 => hd σ x n ||| (if σ 7 n = x then spn (σ 9 n) (σ 10 n) else 0)
def dys (σ : ST) (r : Nat) : Nat :=
  (if hmy σ r = 0 then spn 0 59 else hd σ r (σ 6 0)) &&& (if σ 4 r = 0 then spn 0 59 else spn (σ 5 r - 1) 59) &&& (if nwr σ r = 0 then spn 0 59 else spn 0 (σ 5 (nwr σ r - 1) - 1))
theorem hd_lt {σ : ST} (w : WF σ) (x : Nat) : ∀ n, n ≤ σ 6 0 → hd σ x n < 1152921504606846976
  | 0, _ => by simp [hd]
  | n + 1, hn => by
    have h1 := hd_lt w x n (by omega)
    have h2 := (w.2.2.1.2 n (by omega)).2.2.2
    unfold hd
    refine Nat.or_lt_two_pow (n := 60) h1 ?_
    split
    · exact spn_lt h2
    · omega
theorem hd_0 {σ : ST} (x : Nat) : ∀ n, cnt1 (fun h => decide (σ 7 h = x)) n = 0 → hd σ x n = 0
  | 0, _ => rfl
  | n + 1, h => by
    unfold cnt1 at h
    have h1 := hd_0 (σ := σ) x n (by omega)
    have h2 : ¬ σ 7 n = x := by
      intro e
      rw [if_pos (decide_eq_true e)] at h
      omega
    unfold hd
    rw [h1, if_neg h2]
    rfl
section DAYS
variable {X : AX} {d : Nat} {Q : Option Value → AH → Prop} {g : Nat → Nat → Int32} {hj : Nat → Nat → Int64} {σ : ST} {h : AH}
theorem c_C_daysBetween {f t : Nat} (h1 : f ≤ t) (h2 : t < 60) : cwp X d m_C_daysBetween [.int (nI f), .int (nI t)] h Q = Q (some (.long (lN (spn f t)))) h := by
  have hp : 1 ≤ 2 ^ (t - f + 1) := Nat.one_le_two_pow
  simp (disch := omega) only [e_C_daysBetween, ↓s_C_daysBetween_0, ↓s_C_daysBetween_1, ↓s_C_daysBetween_2, ↓s_C_daysBetween_3, ↓s_C_daysBetween_4, ↓s_C_daysBetween_5, ↓s_C_daysBetween_6, ↓s_C_daysBetween_7, ↓s_C_daysBetween_8, ↓s_C_daysBetween_9, ↓s_C_daysBetween_10, ↓s_C_daysBetween_11, nI_leI, nI_ltI, nI_eq, N_z, nI_add, pk_sub, pk_mul, kL_i, kL_r, kL_d, kL_l, kL_k, kL_f, Option.toList_some, Option.toList_none, List.cons_append, List.nil_append, bI_z, N_and, N_or, N_shl, N_shr, Nat.one_mul, Nat.reduceAdd, L_shl, lN_sub]
  unfold spn
  rw [show t + 1 - f = t - f + 1 by omega]
theorem l_M_span {f t : Nat} (h1 : f ≤ t) (h2 : t < 60) : ∀ (n k : Nat), k + n = t + 1 - f → wp X d m_M_span 5 [.int (nI f), .int (nI t), .long (lN ((2 ^ k - 1) * 2 ^ f)), DUM, .int (nI (f + k))] [] h Q = Q (some (.long (lN (spn f t)))) h
  | 0, k, hk => by
    rw [s_M_span_5]
    simp (disch := omega) only [↓s_M_span_0, ↓s_M_span_1, ↓s_M_span_2, ↓s_M_span_3, ↓s_M_span_7, ↓s_M_span_8, ↓s_M_span_11, ↓s_M_span_12, ↓s_M_span_13, ↓s_M_span_15, ↓s_M_span_16, ↓s_M_span_17, ↓s_M_span_18, ↓s_M_span_21, ↓s_M_span_24, ↓s_M_span_25, nI_leI, nI_ltI, nI_eq, N_z, nI_add, pk_sub, pk_mul, kL_i, kL_r, kL_d, kL_l, kL_k, kL_f, Option.toList_some, Option.toList_none, List.cons_append, List.nil_append, bI_z, N_and, N_or, N_shl, N_shr, Nat.one_mul, Nat.reduceAdd]
    rw [if_pos (by omega), show k = t + 1 - f by omega]
    rfl
  | n + 1, k, hk => by
    have e := ones_step 0 f k
    simp only [Nat.zero_or] at e
    rw [s_M_span_5]
    simp (disch := omega) only [↓s_M_span_0, ↓s_M_span_1, ↓s_M_span_2, ↓s_M_span_3, ↓s_M_span_7, ↓s_M_span_8, ↓s_M_span_11, ↓s_M_span_12, ↓s_M_span_13, ↓s_M_span_15, ↓s_M_span_16, ↓s_M_span_17, ↓s_M_span_18, ↓s_M_span_21, ↓s_M_span_24, ↓s_M_span_25, nI_leI, nI_ltI, nI_eq, N_z, nI_add, pk_sub, pk_mul, kL_i, kL_r, kL_d, kL_l, kL_k, kL_f, Option.toList_some, Option.toList_none, List.cons_append, List.nil_append, bI_z, N_and, N_or, N_shl, N_shr, Nat.one_mul, Nat.reduceAdd, L_shl, L_or]
    rw [if_neg (by omega), ← e]
    exact l_M_span h1 h2 n (k + 1) (by omega)
theorem c_M_span {f t : Nat} (h1 : f ≤ t) (h2 : t < 60) : cwp X d m_M_span [.int (nI f), .int (nI t)] h Q = Q (some (.long (lN (spn f t)))) h := by
  simp only [e_M_span, ↓s_M_span_0, ↓s_M_span_1, ↓s_M_span_2, ↓s_M_span_3, ↓s_M_span_7, ↓s_M_span_8, ↓s_M_span_11, ↓s_M_span_12, ↓s_M_span_13, ↓s_M_span_15, ↓s_M_span_16, ↓s_M_span_17, ↓s_M_span_18, ↓s_M_span_21, ↓s_M_span_24, ↓s_M_span_25, kL_i, kL_d, kL_r, kL_l]
  have := l_M_span (X := X) (d := d) (Q := Q) (h := h) h1 h2 (t + 1 - f) 0 (by omega)
  simp only [Nat.pow_zero, Nat.sub_self, Nat.zero_mul, Nat.add_zero] at this
  exact this
theorem l_Rings_pressDays {x : Nat} {P : Prop} (w : WF σ) (hr : rdHc g hj σ) (hx : x < 100) (K : wp X (d + 1) m_Rings_pressDays 41 [.ref 3, .int (nI x), .long (lN (hd σ x (σ 6 0))), DUM, .int (nI (σ 6 0))] [] (HP g hj) Q = P) : ∀ (n i : Nat), i + n = σ 6 0 → wp X (d + 1) m_Rings_pressDays 5 [.ref 3, .int (nI x), .long (lN (hd σ x i)), DUM, .int (nI i)] [] (HP g hj) Q = P
  | 0, i, hi => by
    have w2 := w.2.2.1.1
    have h1 := hr.1
    have e : i = σ 6 0 := by omega
    subst e
    rw [s_Rings_pressDays_5]
    simp (disch := omega) only [↓s_Rings_pressDays_7, ↓s_Rings_pressDays_8, ↓s_Rings_pressDays_11, nI_leI, nI_ltI, nI_eq, N_z, nI_add, pk_sub, pk_mul, kL_i, kL_r, kL_d, kL_l, kL_k, kL_f, Option.toList_some, Option.toList_none, List.cons_append, List.nil_append, bI_z, N_and, N_or, N_shl, N_shr, Nat.one_mul, Nat.reduceAdd, h1, Nat.le_refl, if_true]
    exact K
  | n + 1, i, hi => by
    have w2 := w.2.2.1.1
    have h1 := hr.1
    obtain ⟨h2, h3, h4⟩ := hr.2 i (by omega)
    have w3 := (w.2.2.1.2 i (by omega)).1
    have w4 := w.2.1.1
    have e : hd σ x (i + 1) = hd σ x i ||| (if σ 7 i = x then spn (σ 9 i) (σ 10 i) else 0) := rfl
    rw [s_Rings_pressDays_5]
    simp (disch := omega) only [↓s_Rings_pressDays_7, ↓s_Rings_pressDays_8, ↓s_Rings_pressDays_11, ↓s_Rings_pressDays_14, ↓s_Rings_pressDays_15, ↓s_Rings_pressDays_18, ↓s_Rings_pressDays_20, ↓s_Rings_pressDays_21, ↓s_Rings_pressDays_22, ↓s_Rings_pressDays_25, ↓s_Rings_pressDays_26, ↓s_Rings_pressDays_27, ↓s_Rings_pressDays_30, ↓s_Rings_pressDays_32, ↓s_Rings_pressDays_33, ↓s_Rings_pressDays_34, ↓s_Rings_pressDays_35, ↓s_Rings_pressDays_38, nI_leI, nI_ltI, nI_eq, N_z, nI_add, pk_sub, pk_mul, kL_i, kL_r, kL_d, kL_l, kL_k, kL_f, Option.toList_some, Option.toList_none, List.cons_append, List.nil_append, bI_z, N_and, N_or, N_shl, N_shr, Nat.one_mul, Nat.reduceAdd, h1, h2, h4, L_or]
    rw [if_neg (by omega)]
    by_cases hp : σ 7 i = x
    · rw [if_neg (fun z => z hp)]
      rw [if_pos hp] at e
      rw [← e]
      exact l_Rings_pressDays w hr hx K n (i + 1) (by omega)
    · rw [if_pos hp]
      rw [if_neg hp, Nat.or_zero] at e
      rw [← e]
      exact l_Rings_pressDays w hr hx K n (i + 1) (by omega)
theorem nwr_lt {x : Nat} (hz : nwr σ x ≠ 0) : nwr σ x - 1 < σ 2 0 ∧ σ 4 (nwr σ x - 1) = x + 1 := by
  have h1 := fst1_le (fun r => decide (σ 4 r = x + 1)) (σ 2 0) 0
  have h2 := fst1_p (fun r => decide (σ 4 r = x + 1)) (σ 2 0) 0 hz
  have h3 : nwr σ x ≤ 0 + σ 2 0 := h1
  exact ⟨by omega, of_decide_eq_true h2⟩
theorem c_Rings_pressDays {r : Nat} (w : WF σ) (hr : rdR g 3 3 4 5 6 σ) (hh : rdHc g hj σ) (h0 : r < σ 2 0) : cwp X (d + 1) m_Rings_pressDays [.ref 3, .int (nI r)] (HP g hj) Q = Q (some (.long (lN (dys σ r)))) (HP g hj) := by
  have w2 := w.2.1.1
  obtain ⟨a1, a2, a3⟩ := hr.2 r h0
  obtain ⟨b1, b2, b3, b4⟩ := w.2.1.2 r h0
  have hm : hmy σ r ≤ σ 6 0 := cnt1_le _ _
  have w3 := w.2.2.1.1
  simp only [e_Rings_pressDays, ↓s_Rings_pressDays_0, ↓s_Rings_pressDays_1, ↓s_Rings_pressDays_2, ↓s_Rings_pressDays_3, kL_i, kL_d, kL_r, kL_l]
  refine l_Rings_pressDays w hh (by omega) ?_ (σ 6 0) 0 (by omega)
  simp (disch := omega) only [↓s_Rings_pressDays_41, ↓s_Rings_pressDays_42, ↓s_Rings_pressDays_43, ↓s_Rings_pressDays_46, c_Rings_timesHeld w hh, nI_leI, nI_ltI, nI_eq, N_z, nI_add, pk_sub, pk_mul, kL_i, kL_r, kL_d, kL_l, kL_k, kL_f, Option.toList_some, Option.toList_none, List.cons_append, List.nil_append, bI_z, N_and, N_or, N_shl, N_shr, Nat.one_mul, Nat.reduceAdd]
  have K2 : ∀ (A : Nat) (v4 : Value), A < 1152921504606846976 → wp X (d + 1) m_Rings_pressDays 80 [.ref 3, .int (nI r), .long (lN A), DUM, v4] [] (HP g hj) Q = Q (some (.long (lN (A &&& (if nwr σ r = 0 then spn 0 59 else spn 0 (σ 5 (nwr σ r - 1) - 1)))))) (HP g hj) := by
    intro A v4 hA
    simp (disch := omega) only [↓s_Rings_pressDays_80, ↓s_Rings_pressDays_81, ↓s_Rings_pressDays_82, ↓s_Rings_pressDays_85, ↓s_Rings_pressDays_87, ↓s_Rings_pressDays_89, ↓s_Rings_pressDays_90, ↓s_Rings_pressDays_93, ↓s_Rings_pressDays_94, ↓s_Rings_pressDays_97, c_Rings_newerThan w hr, nI_leI, nI_ltI, nI_eq, N_z, nI_add, pk_sub, pk_mul, kL_i, kL_r, kL_d, kL_l, kL_k, kL_f, Option.toList_some, Option.toList_none, List.cons_append, List.nil_append, bI_z, N_and, N_or, N_shl, N_shr, Nat.one_mul, Nat.reduceAdd]
    have hnl : nwr σ r ≤ 0 + σ 2 0 := fst1_le _ _ _
    simp only [oI_m1 (show nwr σ r < 4294967295 by omega)]
    by_cases hn : nwr σ r = 0
    · rw [if_neg (fun z => z hn), if_pos hn]
      simp (disch := omega) only [↓s_Rings_pressDays_93, ↓s_Rings_pressDays_94, ↓s_Rings_pressDays_110]
      rw [and_days hA]
    · obtain ⟨n1, n2⟩ := nwr_lt hn
      obtain ⟨c1, c2, c3⟩ := hr.2 _ n1
      obtain ⟨e1, e2, e3, e4⟩ := w.2.1.2 _ n1
      have c4 : oI (σ 5 (nwr σ r - 1)) = nI (σ 5 (nwr σ r - 1) - 1) := if_neg (by omega)
      rw [if_pos hn, if_neg hn, show oI (nwr σ r) = nI (nwr σ r - 1) from if_neg hn]
      simp (disch := omega) only [↓s_Rings_pressDays_97, ↓s_Rings_pressDays_98, ↓s_Rings_pressDays_99, ↓s_Rings_pressDays_100, ↓s_Rings_pressDays_103, ↓s_Rings_pressDays_105, ↓s_Rings_pressDays_106, ↓s_Rings_pressDays_109, ↓s_Rings_pressDays_110, nI_leI, nI_ltI, nI_eq, N_z, nI_add, pk_sub, pk_mul, kL_i, kL_r, kL_d, kL_l, kL_k, kL_f, Option.toList_some, Option.toList_none, List.cons_append, List.nil_append, bI_z, N_and, N_or, N_shl, N_shr, Nat.one_mul, Nat.reduceAdd, c3, c4, c_C_daysBetween, L_and]
  have K1 : ∀ (A : Nat) (v4 : Value), A < 1152921504606846976 → wp X (d + 1) m_Rings_pressDays 56 [.ref 3, .int (nI r), .long (lN A), DUM, v4] [] (HP g hj) Q = Q (some (.long (lN (A &&& (if σ 4 r = 0 then spn 0 59 else spn (σ 5 r - 1) 59) &&& (if nwr σ r = 0 then spn 0 59 else spn 0 (σ 5 (nwr σ r - 1) - 1)))))) (HP g hj) := by
    intro A v4 hA
    simp (disch := omega) only [↓s_Rings_pressDays_56, ↓s_Rings_pressDays_57, ↓s_Rings_pressDays_60, ↓s_Rings_pressDays_61, ↓s_Rings_pressDays_62, ↓s_Rings_pressDays_63, a2, oI_m1]
    by_cases hn : σ 4 r = 0
    · rw [if_pos hn, if_pos hn, and_days hA]
      exact K2 A v4 hA
    · have c4 : oI (σ 5 r) = nI (σ 5 r - 1) := if_neg (by omega)
      rw [if_neg hn, if_neg hn]
      simp (disch := omega) only [↓s_Rings_pressDays_66, ↓s_Rings_pressDays_67, ↓s_Rings_pressDays_68, ↓s_Rings_pressDays_71, ↓s_Rings_pressDays_72, ↓s_Rings_pressDays_73, ↓s_Rings_pressDays_75, ↓s_Rings_pressDays_78, ↓s_Rings_pressDays_79, nI_leI, nI_ltI, nI_eq, N_z, nI_add, pk_sub, pk_mul, kL_i, kL_r, kL_d, kL_l, kL_k, kL_f, Option.toList_some, Option.toList_none, List.cons_append, List.nil_append, bI_z, N_and, N_or, N_shl, N_shr, Nat.one_mul, Nat.reduceAdd, a3, c4, c_C_daysBetween, L_and]
      exact K2 _ v4 (Nat.lt_of_le_of_lt Nat.and_le_left hA)
  unfold dys
  by_cases hz : hmy σ r = 0
  · rw [if_neg (fun z => z hz), if_pos hz]
    simp (disch := omega) only [↓s_Rings_pressDays_49, ↓s_Rings_pressDays_50, ↓s_Rings_pressDays_52, ↓s_Rings_pressDays_55, nI_leI, nI_ltI, nI_eq, N_z, nI_add, pk_sub, pk_mul, kL_i, kL_r, kL_d, kL_l, kL_k, kL_f, Option.toList_some, Option.toList_none, List.cons_append, List.nil_append, bI_z, N_and, N_or, N_shl, N_shr, Nat.one_mul, Nat.reduceAdd, c_C_daysBetween]
    exact K1 _ _ (spn_lt (by omega))
  · rw [if_pos hz, if_neg hz]
    exact K1 _ _ (hd_lt w r _ (Nat.le_refl _))
theorem l_M_daysOf {x B : Nat} {P : Prop} (w : WF σ) (hr : rdHm g σ) (hx : x < 100) (K : wp X (d + 1) m_M_daysOf 69 [.ref 51, .int (nI x), .long (lN (B ||| hd σ x (σ 6 0))), DUM, .int (nI (σ 6 0))] [] (HP g hj) Q = P) : ∀ (n i : Nat), i + n = σ 6 0 → wp X (d + 1) m_M_daysOf 19 [.ref 51, .int (nI x), .long (lN (B ||| hd σ x i)), DUM, .int (nI i)] [] (HP g hj) Q = P
  | 0, i, hi => by
    have w2 := w.2.2.1.1
    have h1 := hr.1
    have e : i = σ 6 0 := by omega
    subst e
    rw [s_M_daysOf_19]
    simp (disch := omega) only [↓s_M_daysOf_21, ↓s_M_daysOf_22, ↓s_M_daysOf_25, nI_leI, nI_ltI, nI_eq, N_z, nI_add, pk_sub, pk_mul, kL_i, kL_r, kL_d, kL_l, kL_k, kL_f, Option.toList_some, Option.toList_none, List.cons_append, List.nil_append, bI_z, N_and, N_or, N_shl, N_shr, Nat.one_mul, Nat.reduceAdd, h1, Nat.le_refl, if_true]
    exact K
  | n + 1, i, hi => by
    have w2 := w.2.2.1.1
    have h1 := hr.1
    obtain ⟨h2, h3, h4, h5⟩ := hr.2 i (by omega)
    obtain ⟨w3, w5, w6, w7⟩ := w.2.2.1.2 i (by omega)
    have w4 := w.2.1.1
    have e : B ||| hd σ x (i + 1) = (B ||| hd σ x i) ||| (if σ 7 i = x then spn (σ 9 i) (σ 10 i) else 0) := by
      rw [Nat.or_assoc]; rfl
    rw [s_M_daysOf_19]
    simp (disch := omega) only [↓s_M_daysOf_21, ↓s_M_daysOf_22, ↓s_M_daysOf_25, ↓s_M_daysOf_28, ↓s_M_daysOf_29, ↓s_M_daysOf_30, ↓s_M_daysOf_33, ↓s_M_daysOf_35, ↓s_M_daysOf_36, ↓s_M_daysOf_37, ↓s_M_daysOf_40, ↓s_M_daysOf_41, ↓s_M_daysOf_44, ↓s_M_daysOf_46, ↓s_M_daysOf_47, ↓s_M_daysOf_48, ↓s_M_daysOf_51, ↓s_M_daysOf_53, ↓s_M_daysOf_54, ↓s_M_daysOf_57, ↓s_M_daysOf_60, ↓s_M_daysOf_61, ↓s_M_daysOf_62, ↓s_M_daysOf_63, ↓s_M_daysOf_66, nI_leI, nI_ltI, nI_eq, N_z, nI_add, pk_sub, pk_mul, kL_i, kL_r, kL_d, kL_l, kL_k, kL_f, Option.toList_some, Option.toList_none, List.cons_append, List.nil_append, bI_z, N_and, N_or, N_shl, N_shr, Nat.one_mul, Nat.reduceAdd, h1, h2, h4, h5, c_M_span, L_or]
    rw [if_neg (by omega)]
    by_cases hp : σ 7 i = x
    · rw [if_neg (fun z => z hp)]
      rw [if_pos hp] at e
      rw [← e]
      exact l_M_daysOf w hr hx K n (i + 1) (by omega)
    · rw [if_pos hp]
      rw [if_neg hp] at e
      rw [← e]
      exact l_M_daysOf w hr hx K n (i + 1) (by omega)
theorem c_M_daysOf {r : Nat} (w : WF σ) (hr : rdR g 51 4 53 54 55 σ) (hh : rdHm g σ) (h0 : r < σ 2 0) : cwp X (d + 1) m_M_daysOf [.ref 51, .int (nI r)] (HP g hj) Q = Q (some (.long (lN (dys σ r)))) (HP g hj) := by
  have w2 := w.2.1.1
  obtain ⟨a1, a2, a3⟩ := hr.2 r h0
  obtain ⟨b1, b2, b3, b4⟩ := w.2.1.2 r h0
  have hm : hmy σ r ≤ σ 6 0 := cnt1_le _ _
  have w3 := w.2.2.1.1
  have hD : (1152921504606846975 : Nat) = spn 0 59 := by decide +kernel
  have K3 : ∀ A : Nat, ∀ v4 : Value, wp X (d + 1) m_M_daysOf 102 [.ref 51, .int (nI r), .long (lN A), DUM, v4] [] (HP g hj) Q = Q (some (.long (lN (A &&& (if σ 4 r = 0 then spn 0 59 else spn (σ 5 r - 1) 59))))) (HP g hj) := by
    intro A v4
    simp (disch := omega) only [↓s_M_daysOf_102, ↓s_M_daysOf_103, ↓s_M_daysOf_104, ↓s_M_daysOf_107, ↓s_M_daysOf_108, ↓s_M_daysOf_109, ↓s_M_daysOf_110, ↓s_M_daysOf_113, ↓s_M_daysOf_116, ↓s_M_daysOf_119, a2, oI_m1]
    by_cases hn : σ 4 r = 0
    · rw [if_neg (fun z => z hn), if_pos hn]
      simp (disch := omega) only [↓s_M_daysOf_113, ↓s_M_daysOf_116, ↓s_M_daysOf_130, ↓s_M_daysOf_131, L_and, hD]
    · have c4 : oI (σ 5 r) = nI (σ 5 r - 1) := if_neg (by omega)
      rw [if_pos hn, if_neg hn]
      simp (disch := omega) only [↓s_M_daysOf_119, ↓s_M_daysOf_120, ↓s_M_daysOf_123, ↓s_M_daysOf_124, ↓s_M_daysOf_125, ↓s_M_daysOf_127, ↓s_M_daysOf_130, ↓s_M_daysOf_131, nI_leI, nI_ltI, nI_eq, N_z, nI_add, pk_sub, pk_mul, kL_i, kL_r, kL_d, kL_l, kL_k, kL_f, Option.toList_some, Option.toList_none, List.cons_append, List.nil_append, bI_z, N_and, N_or, N_shl, N_shr, Nat.one_mul, Nat.reduceAdd, a3, c4, c_M_span, L_and]
  have K2 : ∀ A : Nat, ∀ v4 : Value, wp X (d + 1) m_M_daysOf 69 [.ref 51, .int (nI r), .long (lN A), DUM, v4] [] (HP g hj) Q = Q (some (.long (lN (A &&& (if nwr σ r = 0 then spn 0 59 else spn 0 (σ 5 (nwr σ r - 1) - 1)) &&& (if σ 4 r = 0 then spn 0 59 else spn (σ 5 r - 1) 59))))) (HP g hj) := by
    intro A v4
    have hnl : nwr σ r ≤ 0 + σ 2 0 := fst1_le _ _ _
    simp (disch := omega) only [↓s_M_daysOf_69, ↓s_M_daysOf_70, ↓s_M_daysOf_71, ↓s_M_daysOf_74, ↓s_M_daysOf_76, ↓s_M_daysOf_77, ↓s_M_daysOf_79, ↓s_M_daysOf_80, c_M_newer w hr, nI_leI, nI_ltI, nI_eq, N_z, nI_add, pk_sub, pk_mul, kL_i, kL_r, kL_d, kL_l, kL_k, kL_f, Option.toList_some, Option.toList_none, List.cons_append, List.nil_append, bI_z, N_and, N_or, N_shl, N_shr, Nat.one_mul, Nat.reduceAdd]
    simp only [oI_m1 (show nwr σ r < 4294967295 by omega)]
    by_cases hn : nwr σ r = 0
    · rw [if_neg (fun z => z hn), if_pos hn]
      simp (disch := omega) only [↓s_M_daysOf_83, ↓s_M_daysOf_86, ↓s_M_daysOf_100, ↓s_M_daysOf_101, nI_leI, nI_ltI, nI_eq, N_z, nI_add, pk_sub, pk_mul, kL_i, kL_r, kL_d, kL_l, kL_k, kL_f, Option.toList_some, Option.toList_none, List.cons_append, List.nil_append, bI_z, N_and, N_or, N_shl, N_shr, Nat.one_mul, Nat.reduceAdd, L_and, hD]
      exact K3 _ _
    · obtain ⟨n1, n2⟩ := nwr_lt hn
      obtain ⟨c1, c2, c3⟩ := hr.2 _ n1
      obtain ⟨e1, e2, e3, e4⟩ := w.2.1.2 _ n1
      have c4 : oI (σ 5 (nwr σ r - 1)) = nI (σ 5 (nwr σ r - 1) - 1) := if_neg (by omega)
      rw [if_pos hn, if_neg hn, show oI (nwr σ r) = nI (nwr σ r - 1) from if_neg hn]
      simp (disch := omega) only [↓s_M_daysOf_89, ↓s_M_daysOf_90, ↓s_M_daysOf_91, ↓s_M_daysOf_94, ↓s_M_daysOf_96, ↓s_M_daysOf_97, ↓s_M_daysOf_100, ↓s_M_daysOf_101, nI_leI, nI_ltI, nI_eq, N_z, nI_add, pk_sub, pk_mul, kL_i, kL_r, kL_d, kL_l, kL_k, kL_f, Option.toList_some, Option.toList_none, List.cons_append, List.nil_append, bI_z, N_and, N_or, N_shl, N_shr, Nat.one_mul, Nat.reduceAdd, c3, c4, c_M_span, L_and]
      exact K3 _ _
  have e3 : dys σ r = (if hmy σ r = 0 then spn 0 59 else hd σ r (σ 6 0)) &&& (if nwr σ r = 0 then spn 0 59 else spn 0 (σ 5 (nwr σ r - 1) - 1)) &&& (if σ 4 r = 0 then spn 0 59 else spn (σ 5 r - 1) 59) := by
    unfold dys
    rw [Nat.and_assoc, Nat.and_assoc]
    congr 1
    exact Nat.and_comm _ _
  rw [e3]
  simp (disch := omega) only [e_M_daysOf, ↓s_M_daysOf_0, ↓s_M_daysOf_1, ↓s_M_daysOf_2, ↓s_M_daysOf_5, c_M_heldMany w hh, nI_leI, nI_ltI, nI_eq, N_z, nI_add, pk_sub, pk_mul, kL_i, kL_r, kL_d, kL_l, kL_k, kL_f, Option.toList_some, Option.toList_none, List.cons_append, List.nil_append, bI_z, N_and, N_or, N_shl, N_shr, Nat.one_mul, Nat.reduceAdd]
  by_cases hz : hmy σ r = 0
  · rw [if_neg (fun z => z hz), if_pos hz]
    simp (disch := omega) only [↓s_M_daysOf_8, ↓s_M_daysOf_11, ↓s_M_daysOf_15, ↓s_M_daysOf_16, ↓s_M_daysOf_17, nI_leI, nI_ltI, nI_eq, N_z, nI_add, pk_sub, pk_mul, kL_i, kL_r, kL_d, kL_l, kL_k, kL_f, Option.toList_some, Option.toList_none, List.cons_append, List.nil_append, bI_z, N_and, N_or, N_shl, N_shr, Nat.one_mul, Nat.reduceAdd, hD]
    have := l_M_daysOf (X := X) (d := d) (Q := Q) (hj := hj) (B := spn 0 59) w hh (x := r) (by omega) (K2 _ _) (σ 6 0) 0 (by omega)
    rw [hd_0 r _ hz, show spn 0 59 ||| hd σ r 0 = spn 0 59 from Nat.or_zero _, Nat.or_zero] at this
    exact this
  · rw [if_pos hz, if_neg hz]
    simp (disch := omega) only [↓s_M_daysOf_14, ↓s_M_daysOf_15, ↓s_M_daysOf_16, ↓s_M_daysOf_17, nI_leI, nI_ltI, nI_eq, N_z, nI_add, pk_sub, pk_mul, kL_i, kL_r, kL_d, kL_l, kL_k, kL_f, Option.toList_some, Option.toList_none, List.cons_append, List.nil_append, bI_z, N_and, N_or, N_shl, N_shr, Nat.one_mul, Nat.reduceAdd]
    have := l_M_daysOf (X := X) (d := d) (Q := Q) (hj := hj) (B := 0) w hh (x := r) (by omega) (K2 _ _) (σ 6 0) 0 (by omega)
    rw [show 0 ||| hd σ r 0 = 0 from Nat.zero_or _, Nat.zero_or] at this
    exact this
end DAYS
