/-! the class: the fewest unknown rings -/
def MB (Ls : List Nat) (g : Nat → Nat → Int32) (k : Nat) (x : Nat → Nat) : Prop := ∀ i, i < Ls.length → g 45 i = nI (bts (fun p => decide (p < k ∧ x p = i)) 8)
def ST0 (σ : ST) (Ls : List Nat) (ms : Nat) (g : Nat → Nat → Int32) : Prop := g 42 5 = nI Ls.length ∧ g 42 6 = nI ms ∧ ∀ p, p < Ls.length → g 43 p = nI (Ls.getD p 0) ∧ g 44 p = nI (bts (fun j => jn σ (Ls.getD j 0) (Ls.getD p 0)) p)
section SHARE
variable {X : AX} {hj : Nat → Nat → Int64} {σ : ST} {Ls : List Nat} {ms : Nat}
def swp (a b v : Nat) : Nat := if v = a then b else if v = b then a else v
theorem swp_inj {a b v w : Nat} (h : swp a b v = swp a b w) : v = w := by
  unfold swp at h
  (repeat' split at h) <;> omega
theorem swp_lt {a b v m : Nat} (ha : a < m) (hb : b < m) (hv : v < m) : swp a b v < m := by
  unfold swp
  split
  · exact hb
  · split
    · exact ha
    · exact hv
theorem VR_swp {a b : Nat} {y : Nat → Nat} (h : VR σ Ls ms y) (ha : a < ms) (hb : b < ms) : VR σ Ls ms (fun k => swp a b (y k)) :=
  ⟨fun k hk => swp_lt ha hb (h.1 k hk), fun p q h1 h2 h3 => h.2 p q h1 h2 (swp_inj h3)⟩
def SHk (X : AX) (hj : Nat → Nat → Int64) (σ : ST) (Ls : List Nat) (ms m : Nat) : Prop :=
  ∀ (k u : Nat) (x : Nat → Nat) (g : Nat → Nat → Int32) (d : Nat) (Q : Option Value → AH → Prop), k + m = Ls.length → u ≤ k → (∀ p, p < k → x p < u) → PV σ Ls ms k x → ST0 σ Ls ms g → MB Ls g k x → (∀ p, p < k → g 46 (Ls.getD p 0) = nI (x p)) →
    (∀ g' x', VR σ Ls ms x' → (∀ p, p < k → x' p = x p) → (∀ y, VR σ Ls ms y → (∀ p, p < k → y p = x p) → lexle Ls.length x' y) → (∀ i, i ≠ 45 → i ≠ 46 → g' i = g i) → MB Ls g' k x → (∀ p, p < Ls.length → g' 46 (Ls.getD p 0) = nI (x' p)) → (∀ l, l ∉ Ls → g' 46 l = g 46 l) → Q (some (.int (nI 1))) (HP g' hj)) →
    (∀ g', (∀ y, VR σ Ls ms y → ¬ ∀ p, p < k → y p = x p) → (∀ i, i ≠ 45 → i ≠ 46 → g' i = g i) → MB Ls g' k x → (∀ p, p < k → g' 46 (Ls.getD p 0) = nI (x p)) → (∀ l, l ∉ Ls → g' 46 l = g 46 l) → Q (some (.int (nI 0))) (HP g' hj)) →
    cwp X (d + m) m_Strangers_share [.ref 42, .int (nI k), .int (nI u)] (HP g hj) Q
theorem share_0 (hn : Ls.length ≤ 8) : SHk X hj σ Ls ms 0 := by
  intro k u x g d Q hk hu hx pv st mb nb K1 K0
  have : k = Ls.length := by omega
  subst this
  have e0 := st.1
  simp (disch := omega) only [e_Strangers_share, ↓s_Strangers_share_0, ↓s_Strangers_share_1, ↓s_Strangers_share_2, ↓s_Strangers_share_5, ↓s_Strangers_share_8, ↓s_Strangers_share_9_0, ↓s_Strangers_share_9_1, ↓s_Strangers_share_9_b, nI_leI, nI_ltI, nI_eq, N_z, nI_add, pk_sub, pk_mul, kL_i, kL_r, kL_d, kL_l, kL_k, kL_f, Option.toList_some, Option.toList_none, List.cons_append, List.nil_append, bI_z, N_and, N_or, N_shl, N_shr, Nat.one_mul, Nat.reduceAdd, lg_cmp_eq, L_and, L_or, bI_1, bI_0, if_true, if_false, reduceIte, N_m1x, ite_not, e0]
  rw [if_neg (by omega)]
  exact K1 g x pv (fun _ _ => rfl) (fun y _ hy => Or.inl (fun k hk => (hy k hk).symm)) (fun _ _ _ => rfl) mb nb (fun _ _ => rfl)
theorem share_s (hn : Ls.length ≤ 8) (hms : ms ≤ Ls.length) (nd : Ls.Nodup) (h12 : ∀ l, l ∈ Ls → l < 12) {m : Nat} (ih : SHk X hj σ Ls ms m) : SHk X hj σ Ls ms (m + 1) := by
  intro k u x g0 d Q hk hu hx pv st0 mb0 nb0 K1 K0
  have l12 := h12 _ (gD_mem (show k < Ls.length by omega))
  have loop : ∀ (f i : Nat) (v4 : Value) (g : Nat → Nat → Int32), i + f = u + 1 → (∀ y, VR σ Ls ms y → (∀ p, p < k → y p = x p) → i ≤ y k) → (∀ i, i ≠ 45 → i ≠ 46 → g i = g0 i) → MB Ls g k x → (∀ p, p < k → g 46 (Ls.getD p 0) = nI (x p)) → (∀ l, l ∉ Ls → g 46 l = g0 46 l) → wp X (d + (m + 1)) m_Strangers_share 12 [.ref 42, .int (nI k), .int (nI u), .int (nI i), v4] [] (HP g hj) Q := by
    intro f
    induction f with
    | zero =>
      intro i v4 g hi iv e1 mb nb el
      rw [s_Strangers_share_12]
      simp (disch := omega) only [↓s_Strangers_share_13, ↓s_Strangers_share_14, ↓s_Strangers_share_110, ↓s_Strangers_share_111_0, ↓s_Strangers_share_111_1, ↓s_Strangers_share_111_b, nI_leI, nI_ltI, nI_eq, N_z, nI_add, pk_sub, pk_mul, kL_i, kL_r, kL_d, kL_l, kL_k, kL_f, Option.toList_some, Option.toList_none, List.cons_append, List.nil_append, bI_z, N_and, N_or, N_shl, N_shr, Nat.one_mul, Nat.reduceAdd, lg_cmp_eq, L_and, L_or, bI_1, bI_0, if_true, if_false, reduceIte, N_m1x, ite_not]
      rw [if_pos (by omega)]
      refine K0 g (fun y vy hy => ?_) e1 mb nb el
      have h1 := iv y vy hy
      have h2 := vy.1 k (by omega)
      have h3 := iv _ (VR_swp vy (a := u) (b := y k) (by omega) (by omega)) (fun p hp => by
        have h4 := hx p hp
        show swp u (y k) (y p) = x p
        rw [hy p hp]
        unfold swp
        rw [if_neg (by omega), if_neg (by omega)])
      unfold swp at h3
      rw [if_neg (by omega), if_pos rfl] at h3
      omega
    | succ f ihf =>
      intro i v4 g hi iv e1 mb nb el
      have st : ST0 σ Ls ms g := by unfold ST0; rw [e1 42 (by omega) (by omega), e1 43 (by omega) (by omega), e1 44 (by omega) (by omega)]; exact st0
      have e6 := st.2.1
      rw [s_Strangers_share_12]
      simp (disch := omega) only [↓s_Strangers_share_13, ↓s_Strangers_share_14, ↓s_Strangers_share_17, ↓s_Strangers_share_18, ↓s_Strangers_share_19, ↓s_Strangers_share_22, nI_leI, nI_ltI, nI_eq, N_z, nI_add, pk_sub, pk_mul, kL_i, kL_r, kL_d, kL_l, kL_k, kL_f, Option.toList_some, Option.toList_none, List.cons_append, List.nil_append, bI_z, N_and, N_or, N_shl, N_shr, Nat.one_mul, Nat.reduceAdd, lg_cmp_eq, L_and, L_or, bI_1, bI_0, if_true, if_false, reduceIte, N_m1x, ite_not, e6]
      rw [if_neg (by omega)]
      by_cases hims : ms ≤ i
      · rw [if_pos hims]
        simp (disch := omega) only [↓s_Strangers_share_110, ↓s_Strangers_share_111_0, ↓s_Strangers_share_111_1, ↓s_Strangers_share_111_b, nI_leI, nI_ltI, nI_eq, N_z, nI_add, pk_sub, pk_mul, kL_i, kL_r, kL_d, kL_l, kL_k, kL_f, Option.toList_some, Option.toList_none, List.cons_append, List.nil_append, bI_z, N_and, N_or, N_shl, N_shr, Nat.one_mul, Nat.reduceAdd, lg_cmp_eq, L_and, L_or, bI_1, bI_0, if_true, if_false, reduceIte, N_m1x, ite_not]
        refine K0 g (fun y vy hy => ?_) e1 mb nb el
        have h1 := iv y vy hy
        have h2 := vy.1 k (by omega)
        omega
      rw [if_neg hims]
      have a1 := mb i (by omega)
      obtain ⟨a3, a2⟩ := st.2.2 k (by omega)
      have b1 := bts_16 (fun p => decide (p < k ∧ x p = i)) (show 8 ≤ 16 by omega)
      have b2 := bts_16 (fun j => jn σ (Ls.getD j 0) (Ls.getD k 0)) (show k ≤ 16 by omega)
      have b3 : bts (fun p => decide (p < k ∧ x p = i)) 8 &&& (bts (fun j => jn σ (Ls.getD j 0) (Ls.getD k 0)) k ^^^ 4294967295) ≤ bts (fun p => decide (p < k ∧ x p = i)) 8 := Nat.and_le_left
      have b4 : bts (fun p => decide (p < k ∧ x p = i)) 8 ||| 2 ^ k < 65536 := Nat.or_lt_two_pow (n := 16) b1 (Nat.pow_lt_pow_right (by omega) (by omega))
      simp (disch := omega) only [↓s_Strangers_share_25, ↓s_Strangers_share_26, ↓s_Strangers_share_29, ↓s_Strangers_share_30, ↓s_Strangers_share_31, ↓s_Strangers_share_32, ↓s_Strangers_share_35, ↓s_Strangers_share_36, ↓s_Strangers_share_37, ↓s_Strangers_share_38, ↓s_Strangers_share_39, ↓s_Strangers_share_40, nI_leI, nI_ltI, nI_eq, N_z, nI_add, pk_sub, pk_mul, kL_i, kL_r, kL_d, kL_l, kL_k, kL_f, Option.toList_some, Option.toList_none, List.cons_append, List.nil_append, bI_z, N_and, N_or, N_shl, N_shr, Nat.one_mul, Nat.reduceAdd, lg_cmp_eq, L_and, L_or, bI_1, bI_0, if_true, if_false, reduceIte, N_m1x, ite_not, a1, a2]
      have go : ∀ (v4 : Value) (g2 : Nat → Nat → Int32), (∀ y, VR σ Ls ms y → (∀ p, p < k → y p = x p) → y k ≠ i) → (∀ i, i ≠ 45 → i ≠ 46 → g2 i = g0 i) → MB Ls g2 k x → (∀ p, p < k → g2 46 (Ls.getD p 0) = nI (x p)) → (∀ l, l ∉ Ls → g2 46 l = g0 46 l) → wp X (d + (m + 1)) m_Strangers_share 104 [.ref 42, .int (nI k), .int (nI u), .int (nI i), v4] [] (HP g2 hj) Q := by
        intro v4 g2 hne f1 f2 f3 f4
        simp (disch := omega) only [↓s_Strangers_share_104, ↓s_Strangers_share_107, nI_leI, nI_ltI, nI_eq, N_z, nI_add, pk_sub, pk_mul, kL_i, kL_r, kL_d, kL_l, kL_k, kL_f, Option.toList_some, Option.toList_none, List.cons_append, List.nil_append, bI_z, N_and, N_or, N_shl, N_shr, Nat.one_mul, Nat.reduceAdd, lg_cmp_eq, L_and, L_or, bI_1, bI_0, if_true, if_false, reduceIte, N_m1x, ite_not]
        refine ihf (i + 1) v4 g2 (by omega) (fun y vy hy => ?_) f1 f2 f3 f4
        have h1 := iv y vy hy
        have h2 := hne y vy hy
        omega
      by_cases hc : bts (fun p => decide (p < k ∧ x p = i)) 8 &&& (bts (fun j => jn σ (Ls.getD j 0) (Ls.getD k 0)) k ^^^ 4294967295) = 0
      case neg =>
        rw [if_neg hc]
        refine go v4 g (fun y vy hy e => hc ((sub0 b1).mpr (fun p hp hb => ?_))) e1 mb nb el
        rw [bts_tb] at hb ⊢
        simp only [Bool.and_eq_true, decide_eq_true_eq] at hb ⊢
        exact ⟨hb.2.1, vy.2 p k hb.2.1 (by omega) (by rw [hy p hb.2.1, hb.2.2, e])⟩
      rw [if_pos hc]
      have hc2 : ∀ p, p < k → x p = i → jn σ (Ls.getD p 0) (Ls.getD k 0) = true := by
        intro p hp he
        have := (sub0 b1).mp hc p (by omega) (by rw [bts_tb]; simp [show p < 8 by omega, hp, he])
        rw [bts_tb] at this
        simp only [Bool.and_eq_true] at this
        exact this.2
      have emax : (if u < i + 1 then nI (i + 1) else nI u) = nI (if u < i + 1 then i + 1 else u) := by
        split <;> rfl
      have lx : ∀ p, p < k → pu x k i p = x p := fun p hp => pu_n _ (by omega)
      have mb1 : MB Ls (up2 g 45 i (nI (bts (fun p => decide (p < k ∧ x p = i)) 8 ||| 2 ^ k))) (k + 1) (pu x k i) := by
        intro q hq
        have tb : bts (fun p => decide (p < k + 1 ∧ pu x k i p = q)) 8 = bts (fun p => decide (p < k ∧ x p = q)) 8 ||| (if q = i then 2 ^ k else 0) := by
          refine eq16 (bts_16 _ (by omega)) (Nat.or_lt_two_pow (n := 16) (bts_16 _ (by omega)) (by split; exact Nat.pow_lt_pow_right (by omega) (by omega); omega)) (fun e he => ?_)
          have : (if q = i then 2 ^ k else 0).testBit e = (decide (q = i) && decide (k = e)) := by
            split
            · rename_i h; rw [Nat.testBit_two_pow]; simp [h]
            · rename_i h; simp [h]
          rw [Nat.testBit_or, this, bts_tb, bts_tb]
          by_cases e1 : e < k
          · rw [lx e e1]
            simp [e1, show e < k + 1 by omega, show ¬ k = e by omega]
          · by_cases e2 : e = k
            · subst e2
              rw [pu_s]
              simp [show e < 8 by omega]
              exact ⟨fun h => h.symm, fun h => h.symm⟩
            · simp [e1, show ¬ e < k + 1 by omega, show ¬ k = e by omega]
        by_cases e : q = i
        · subst e; rw [u2_s, tb, if_pos rfl]
        · rw [u2_m _ _ _ _ e, tb, if_neg e, Nat.or_zero]; exact mb q hq
      have pv1 : PV σ Ls ms (k + 1) (pu x k i) := by
        refine ⟨fun p hp => ?_, fun p q h1 h2 h3 => ?_⟩
        · by_cases e : p = k
          · subst e; rw [pu_s]; omega
          · rw [pu_n _ e]; exact pv.1 p (by omega)
        · rw [lx p (by omega)] at h3
          by_cases e : q = k
          · subst e; rw [pu_s] at h3; exact hc2 p h1 h3
          · rw [lx q (by omega)] at h3; exact pv.2 p q h1 (by omega) h3
      simp (disch := omega) only [↓s_Strangers_share_43, ↓s_Strangers_share_44, ↓s_Strangers_share_47, ↓s_Strangers_share_48, ↓s_Strangers_share_49, ↓s_Strangers_share_50, ↓s_Strangers_share_51, ↓s_Strangers_share_52, ↓s_Strangers_share_53, ↓s_Strangers_share_54, ↓s_Strangers_share_55, ↓s_Strangers_share_56, ↓s_Strangers_share_59, ↓s_Strangers_share_60, ↓s_Strangers_share_63, ↓s_Strangers_share_64, ↓s_Strangers_share_65, ↓s_Strangers_share_66, ↓s_Strangers_share_67, ↓s_Strangers_share_68, ↓s_Strangers_share_69, ↓s_Strangers_share_70, ↓s_Strangers_share_71, ↓s_Strangers_share_72, ↓s_Strangers_share_73, ↓s_Strangers_share_74, ↓s_Strangers_share_75, nI_leI, nI_ltI, nI_eq, N_z, nI_add, pk_sub, pk_mul, kL_i, kL_r, kL_d, kL_l, kL_k, kL_f, Option.toList_some, Option.toList_none, List.cons_append, List.nil_append, bI_z, N_and, N_or, N_shl, N_shr, Nat.one_mul, Nat.reduceAdd, lg_cmp_eq, L_and, L_or, bI_1, bI_0, if_true, if_false, reduceIte, N_m1x, ite_not, u2_s, u2_n, u2_m, a1, a3, emax]
      rw [show d + (m + 1) = (d + m) + 1 by omega]
      simp only [↓s_Strangers_share_78]
      have back : ∀ g2 : Nat → Nat → Int32, MB Ls g2 (k + 1) (pu x k i) → g2 45 i = nI (bts (fun p => decide (p < k + 1 ∧ pu x k i p = i)) 8) ∧ bts (fun p => decide (p < k + 1 ∧ pu x k i p = i)) 8 < 65536 ∧ MB Ls (up2 g2 45 i (nI (bts (fun p => decide (p < k + 1 ∧ pu x k i p = i)) 8 &&& (2 ^ k ^^^ 4294967295)))) k x := by
        intro g2 mb2
        have b16 := bts_16 (fun p => decide (p < k + 1 ∧ pu x k i p = i)) (show 8 ≤ 16 by omega)
        refine ⟨mb2 i (by omega), b16, fun q hq => ?_⟩
        by_cases e : q = i
        · subst e
          rw [u2_s]
          congr 1
          refine eq16 (Nat.lt_of_le_of_lt Nat.and_le_left b16) (bts_16 _ (by omega)) (fun e he => ?_)
          rw [Nat.testBit_and, Nat.testBit_xor, Nat.testBit_two_pow, tb_ff (by omega), bts_tb, bts_tb]
          by_cases e1 : e < k
          · rw [lx e e1]
            simp [e1, show e < k + 1 by omega, show ¬ k = e by omega]
          · by_cases e2 : e = k
            · subst e2; simp
            · simp [e1, show ¬ e < k + 1 by omega]
        · rw [u2_m _ _ _ _ e, mb2 q hq]
          congr 1
          refine eq16 (bts_16 _ (by omega)) (bts_16 _ (by omega)) (fun z he => ?_)
          rw [bts_tb, bts_tb]
          by_cases e1 : z < k
          · rw [lx z e1]
            simp [e1, show z < k + 1 by omega]
          · by_cases e2 : z = k
            · subst e2
              rw [pu_s]
              simp
              intro _ h; exact e h.symm
            · simp [e1, show ¬ z < k + 1 by omega]
      have nbk : ∀ p, p < k → Ls.getD p 0 ≠ Ls.getD k 0 := fun p hp e => by
        have := gD_inj nd (show p < Ls.length by omega) (show k < Ls.length by omega) e
        omega
      refine ih (k + 1) (if u < i + 1 then i + 1 else u) (pu x k i) _ d _ (by omega) (by split <;> omega) (fun p hp => ?_) pv1 ?_ (fun q hq => ?_) (fun p hp => ?_) (fun g2 x2 v1 v2 v3 f1 f2 f3 f4 => ?_) (fun g2 v3 f1 f2 f3 f4 => ?_)
      · by_cases e : p = k
        · subst e; rw [pu_s]; split <;> omega
        · rw [pu_n _ e]
          have := hx p (by omega)
          split <;> omega
      · unfold ST0
        simp (disch := omega) only [u2_s, u2_n, u2_m]
        exact st
      · rw [u2_r _ _ _ (by omega)]; exact mb1 q hq
      · by_cases e : p = k
        · subst e; rw [u2_s, pu_s]
        · rw [u2_m _ _ _ _ (nbk p (by omega)), u2_r _ _ _ (by omega), pu_n _ e]
          exact nb p (by omega)
      · obtain ⟨q1, q2, q3⟩ := back g2 f2
        simp (disch := omega) only [↓s_Strangers_share_81, ↓s_Strangers_share_83, ↓s_Strangers_share_84, ↓s_Strangers_share_87, ↓s_Strangers_share_88, ↓s_Strangers_share_89, ↓s_Strangers_share_90, ↓s_Strangers_share_91, ↓s_Strangers_share_92, ↓s_Strangers_share_93, ↓s_Strangers_share_94, ↓s_Strangers_share_95, ↓s_Strangers_share_96, ↓s_Strangers_share_97, ↓s_Strangers_share_99, ↓s_Strangers_share_102, ↓s_Strangers_share_103_0, ↓s_Strangers_share_103_1, ↓s_Strangers_share_103_b, nI_leI, nI_ltI, nI_eq, N_z, nI_add, pk_sub, pk_mul, kL_i, kL_r, kL_d, kL_l, kL_k, kL_f, Option.toList_some, Option.toList_none, List.cons_append, List.nil_append, bI_z, N_and, N_or, N_shl, N_shr, Nat.one_mul, Nat.reduceAdd, lg_cmp_eq, L_and, L_or, bI_1, bI_0, if_true, if_false, reduceIte, N_m1x, ite_not, Nat.one_ne_zero, Nat.zero_ne_one, eq_self, not_true_eq_false, not_false_eq_true, q1]
        refine K1 _ x2 v1 (fun p hp => by rw [v2 p (by omega), lx p hp]) (fun y vy hy => ?_) (fun z z1 z2 => ?_) q3 (fun p hp => ?_) (fun l hl => ?_)
        · have h1 := iv y vy hy
          have h2 := v2 k (by omega)
          rw [pu_s] at h2
          by_cases e : y k = i
          · refine v3 y vy (fun p hp => ?_)
            by_cases e2 : p = k
            · subst e2; rw [pu_s]; exact e
            · rw [pu_n _ e2]; exact hy p (by omega)
          · refine Or.inr ⟨k, by omega, fun p hp => ?_, by omega⟩
            rw [v2 p (by omega), lx p hp, hy p hp]
        · rw [u2_r _ _ _ z1, f1 z z1 z2, u2_r _ _ _ z2, u2_r _ _ _ z1]; exact e1 z z1 z2
        · rw [u2_r _ _ _ (by omega)]; exact f3 p hp
        · rw [u2_r _ _ _ (by omega), f4 l hl, u2_m _ _ _ _ (fun e => hl (by rw [e]; exact gD_mem (by omega))), u2_r _ _ _ (by omega)]
          exact el l hl
      · obtain ⟨q1, q2, q3⟩ := back g2 f2
        simp (disch := omega) only [↓s_Strangers_share_81, ↓s_Strangers_share_83, ↓s_Strangers_share_84, ↓s_Strangers_share_87, ↓s_Strangers_share_88, ↓s_Strangers_share_89, ↓s_Strangers_share_90, ↓s_Strangers_share_91, ↓s_Strangers_share_92, ↓s_Strangers_share_93, ↓s_Strangers_share_94, ↓s_Strangers_share_95, ↓s_Strangers_share_96, ↓s_Strangers_share_97, ↓s_Strangers_share_99, nI_leI, nI_ltI, nI_eq, N_z, nI_add, pk_sub, pk_mul, kL_i, kL_r, kL_d, kL_l, kL_k, kL_f, Option.toList_some, Option.toList_none, List.cons_append, List.nil_append, bI_z, N_and, N_or, N_shl, N_shr, Nat.one_mul, Nat.reduceAdd, lg_cmp_eq, L_and, L_or, bI_1, bI_0, if_true, if_false, reduceIte, N_m1x, ite_not, Nat.one_ne_zero, Nat.zero_ne_one, eq_self, not_true_eq_false, not_false_eq_true, q1]
        refine go _ _ (fun y vy hy e => ?_) (fun z z1 z2 => ?_) q3 (fun p hp => ?_) (fun l hl => ?_)
        · refine v3 y vy (fun p hp => ?_)
          by_cases e2 : p = k
          · subst e2; rw [pu_s]; exact e
          · rw [pu_n _ e2]; exact hy p (by omega)
        · rw [u2_r _ _ _ z1, f1 z z1 z2, u2_r _ _ _ z2, u2_r _ _ _ z1]; exact e1 z z1 z2
        · rw [u2_r _ _ _ (by omega), f3 p (by omega), lx p hp]
        · rw [u2_r _ _ _ (by omega), f4 l hl, u2_m _ _ _ _ (fun e => hl (by rw [e]; exact gD_mem (by omega))), u2_r _ _ _ (by omega)]
          exact el l hl
  have e0 := st0.1
  simp (disch := omega) only [e_Strangers_share, ↓s_Strangers_share_0, ↓s_Strangers_share_1, ↓s_Strangers_share_2, ↓s_Strangers_share_5, ↓s_Strangers_share_8, ↓s_Strangers_share_9_0, ↓s_Strangers_share_9_1, ↓s_Strangers_share_9_b, ↓s_Strangers_share_10, ↓s_Strangers_share_11, nI_leI, nI_ltI, nI_eq, N_z, nI_add, pk_sub, pk_mul, kL_i, kL_r, kL_d, kL_l, kL_k, kL_f, Option.toList_some, Option.toList_none, List.cons_append, List.nil_append, bI_z, N_and, N_or, N_shl, N_shr, Nat.one_mul, Nat.reduceAdd, lg_cmp_eq, L_and, L_or, bI_1, bI_0, if_true, if_false, reduceIte, N_m1x, ite_not, e0]
  rw [if_pos (by omega)]
  exact loop (u + 1) 0 _ g0 (by omega) (fun _ _ _ => by omega) (fun _ _ _ => rfl) mb0 nb0 (fun _ _ => rfl)
theorem share_all (hn : Ls.length ≤ 8) (hms : ms ≤ Ls.length) (nd : Ls.Nodup) (h12 : ∀ l, l ∈ Ls → l < 12) : ∀ m, SHk X hj σ Ls ms m
  | 0 => share_0 hn
  | m + 1 => share_s hn hms nd h12 (share_all hn hms nd h12 m)
end SHARE
