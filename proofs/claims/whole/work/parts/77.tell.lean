/-! tell -/
def TC (σ : ST) (dn : List (Nat → Nat)) (g : Nat → Nat → Int32) : Prop := g 19 8 = nI dn.length ∧ g 19 9 = nI (bb σ dn).1 ∧ (dn ≠ [] → ∀ l, l ∈ PL σ → g 21 l = nI (oR σ l ((bb σ dn).2 l)) ∧ g 22 l = nI (oT σ l ((bb σ dn).2 l))) ∧ ∀ l, l < 12 → l ∉ PL σ → g 21 l = -1 ∧ g 22 l = -1
def VD (σ : ST) (dn : List (Nat → Nat)) : Prop := ∀ w, w ∈ dn → ∀ l, l ∈ PL σ → w l < on σ l 6
def RO (σ : ST) (dn : List (Nat → Nat)) (k : Nat) (g : Nat → Nat → Int32) : Prop := ∀ p, k ≤ p → p < (PL σ).length → g 23 ((PL σ).getD p 0) = nI (mayN σ dn ((PL σ).getD p 0))
theorem may_new {σ : ST} {dn new : List (Nat → Nat)} {l r : Nat} (hn : new ≠ []) (h : ∀ w, w ∈ new → oR σ l (w l) = r) : mayN σ (dn ++ new) l = mayN σ dn l ||| 2 ^ r := by
  have key : ∀ (new : List (Nat → Nat)) (a : Nat), (∀ w, w ∈ new → oR σ l (w l) = r) → new.foldl (fun m w => m ||| 2 ^ oR σ l (w l)) (a ||| 2 ^ r) = a ||| 2 ^ r := by
    intro new
    induction new with
    | nil => intro a _; rfl
    | cons w new ih =>
      intro a hh
      rw [List.foldl_cons, hh w List.mem_cons_self, Nat.or_assoc, Nat.or_self]
      exact ih a (fun x hx => hh x (List.mem_cons_of_mem _ hx))
  unfold mayN
  rw [List.foldl_append]
  cases new with
  | nil => exact absurd rfl hn
  | cons w new =>
    rw [List.foldl_cons, h w List.mem_cons_self]
    exact key new _ (fun x hx => h x (List.mem_cons_of_mem _ hx))
section TELL
variable {X : AX} {d : Nat} {Q : Option Value → AH → Prop} {g0 : Nat → Nat → Int32} {hj : Nat → Nat → Int64} {σ : ST} {j : Nat → Nat}
theorem l_tell {v1 : Value} (c0 : CP σ (PL σ) g0 hj) (gi : GI σ (PL σ) (2 ^ (PL σ).length - 1) j g0) (Kc : ∀ g, (∀ i, i ≠ 21 → i ≠ 22 → g i = g0 i) → (∀ l, l ∈ PL σ → g 21 l = nI (oR σ l (j l)) ∧ g 22 l = nI (oT σ l (j l))) → (∀ l, l ∉ PL σ → g 21 l = g0 21 l ∧ g 22 l = g0 22 l) → Q none (HP g hj)) :
    ∀ (m x : Nat) (g : Nat → Nat → Int32) (v1 : Value), x + m = (PL σ).length → (∀ i, i ≠ 21 → i ≠ 22 → g i = g0 i) → (∀ l, l ∈ (PL σ).take x → g 21 l = nI (oR σ l (j l)) ∧ g 22 l = nI (oT σ l (j l))) → (∀ l, l ∉ PL σ → g 21 l = g0 21 l ∧ g 22 l = g0 22 l) →
    wp X d m_Ways_tell 26 [.ref 19, v1, .int (nI x)] [] (HP g hj) Q
  | 0, x, g, v1, hx, e1, e2, e3 => by
    have hn := c0.2.1
    have e0 : g 24 2 = nI (PL σ).length := by rw [e1 24 (by omega) (by omega)]; exact c0.1.1
    have hxl : x = (PL σ).length := by omega
    rw [hxl, List.take_length] at e2
    rw [s_Ways_tell_26]
    simp (disch := omega) only [↓s_Ways_tell_27, ↓s_Ways_tell_28, ↓s_Ways_tell_31, ↓s_Ways_tell_34, ↓s_Ways_tell_105, nI_leI, nI_ltI, nI_eq, N_z, nI_add, pk_sub, pk_mul, kL_i, kL_r, kL_d, kL_l, kL_k, kL_f, Option.toList_some, Option.toList_none, List.cons_append, List.nil_append, bI_z, N_and, N_or, N_shl, N_shr, Nat.one_mul, Nat.reduceAdd, lg_cmp_eq, L_and, L_or, bI_1, bI_0, if_true, if_false, reduceIte, N_m1x, ite_not, e0]
    rw [if_pos (by omega)]
    exact Kc g e1 e2 e3
  | m + 1, x, g, v1, hx, e1, e2, e3 => by
    have hn := c0.2.1
    have e0 : g 24 2 = nI (PL σ).length := by rw [e1 24 (by omega) (by omega)]; exact c0.1.1
    have c := CP_cg c0 (g2 := g) (fun k _ _ => e1 k (by omega) (by omega))
    have hxl : x < (PL σ).length := by omega
    obtain ⟨q1, q2⟩ := gi.2.2.1 x (by rw [Nat.testBit_two_pow_sub_one]; simp [hxl])
    rw [← e1 33 (by omega) (by omega)] at q1
    obtain ⟨p1, p2, p3, p4, p5, p6, p7, p8⟩ := CP_rd c hxl q2
    have e25 := (c.1.2.1 x hxl).1
    have w1 := c0.2.2.2.2.2.2.2.1.1
    rw [s_Ways_tell_26]
    simp (disch := omega) only [↓s_Ways_tell_27, ↓s_Ways_tell_28, ↓s_Ways_tell_31, ↓s_Ways_tell_34, ↓s_Ways_tell_37, ↓s_Ways_tell_38, ↓s_Ways_tell_41, ↓s_Ways_tell_42, ↓s_Ways_tell_45, ↓s_Ways_tell_48, ↓s_Ways_tell_49, ↓s_Ways_tell_50, ↓s_Ways_tell_51, ↓s_Ways_tell_54, ↓s_Ways_tell_57, ↓s_Ways_tell_58, ↓s_Ways_tell_61, ↓s_Ways_tell_64, ↓s_Ways_tell_65, ↓s_Ways_tell_66, ↓s_Ways_tell_67, ↓s_Ways_tell_68, ↓s_Ways_tell_69, ↓s_Ways_tell_72, ↓s_Ways_tell_73, ↓s_Ways_tell_76, ↓s_Ways_tell_79, ↓s_Ways_tell_80, ↓s_Ways_tell_81, ↓s_Ways_tell_82, ↓s_Ways_tell_85, ↓s_Ways_tell_88, ↓s_Ways_tell_89, ↓s_Ways_tell_92, ↓s_Ways_tell_95, ↓s_Ways_tell_96, ↓s_Ways_tell_97, ↓s_Ways_tell_98, ↓s_Ways_tell_99, ↓s_Ways_tell_102, nI_leI, nI_ltI, nI_eq, N_z, nI_add, pk_sub, pk_mul, kL_i, kL_r, kL_d, kL_l, kL_k, kL_f, Option.toList_some, Option.toList_none, List.cons_append, List.nil_append, bI_z, N_and, N_or, N_shl, N_shr, Nat.one_mul, Nat.reduceAdd, lg_cmp_eq, L_and, L_or, bI_1, bI_0, if_true, if_false, reduceIte, N_m1x, ite_not, u2_s, u2_n, u2_m, e0, e25, q1, p2, p3]
    rw [if_neg (by omega)]
    refine l_tell (v1 := v1) c0 gi Kc m (x + 1) _ _ (by omega) (fun i i1 i2 => ?_) (fun l hl => ?_) (fun l hl => ?_)
    · rw [u2_r _ _ _ i2, u2_r _ _ _ i1]; exact e1 i i1 i2
    · rw [tk_s hxl, List.mem_append, List.mem_singleton] at hl
      by_cases e : l = (PL σ).getD x 0
      · subst e
        simp (disch := omega) only [u2_s, u2_n, u2_m]
        exact ⟨trivial, trivial⟩
      · simp (disch := omega) only [u2_s, u2_n, u2_m]
        rcases hl with hl | hl
        · exact e2 l hl
        · exact absurd hl e
    · have e : l ≠ (PL σ).getD x 0 := fun e => hl (e ▸ gD_mem hxl)
      simp (disch := omega) only [u2_s, u2_n, u2_m]
      exact e3 l hl
theorem c_tell {dn : List (Nat → Nat)} (c0 : CP σ (PL σ) g0 hj) (gi : GI σ (PL σ) (2 ^ (PL σ).length - 1) j g0) (tc : TC σ dn g0) (hl : dn.length < 20000) (hjv : ∀ l, l ∈ PL σ → j l < on σ l 6)
    (Kc : ∀ g, (∀ i, i ≠ 19 → i ≠ 21 → i ≠ 22 → g i = g0 i) → (∀ i, i ≠ 8 → i ≠ 9 → g 19 i = g0 19 i) → TC σ (dn ++ [j]) g → Q none (HP g hj)) : cwp X d m_Ways_tell [.ref 19, .int (nI (cnt σ j))] (HP g0 hj) Q := by
  obtain ⟨t1, t2, t3, t4⟩ := tc
  have w := c0.2.2.2.2
  have hc := cnt_lt (σ := σ) (w := j) (fun l hl => st_ok w (hjv l hl))
  have hb := bb_le σ dn
  have el : (dn ++ [j]).length = dn.length + 1 := by rw [List.length_append]; rfl
  have e5 := bb_app σ dn j
  simp (disch := omega) only [e_Ways_tell, ↓s_Ways_tell_0, ↓s_Ways_tell_1, ↓s_Ways_tell_2, ↓s_Ways_tell_5, ↓s_Ways_tell_6, ↓s_Ways_tell_7, ↓s_Ways_tell_10, ↓s_Ways_tell_11, ↓s_Ways_tell_12, ↓s_Ways_tell_15, ↓s_Ways_tell_18, nI_leI, nI_ltI, nI_eq, N_z, nI_add, pk_sub, pk_mul, kL_i, kL_r, kL_d, kL_l, kL_k, kL_f, Option.toList_some, Option.toList_none, List.cons_append, List.nil_append, bI_z, N_and, N_or, N_shl, N_shr, Nat.one_mul, Nat.reduceAdd, lg_cmp_eq, L_and, L_or, bI_1, bI_0, if_true, if_false, reduceIte, N_m1x, ite_not, u2_s, u2_n, u2_m, t1, t2]
  by_cases h1 : cnt σ j < (bb σ dn).1
  · rw [if_pos h1] at e5 ⊢
    simp (disch := omega) only [↓s_Ways_tell_19, ↓s_Ways_tell_20, ↓s_Ways_tell_21, ↓s_Ways_tell_24, ↓s_Ways_tell_25, kL_i]
    have c1 : CP σ (PL σ) (up2 (up2 g0 19 8 (nI (dn.length + 1))) 19 9 (nI (cnt σ j))) hj := CP_cg c0 (fun k h1 h2 => by simp (disch := omega) only [u2_r])
    have gi1 : GI σ (PL σ) (2 ^ (PL σ).length - 1) j (up2 (up2 g0 19 8 (nI (dn.length + 1))) 19 9 (nI (cnt σ j))) := by
      unfold GI at gi ⊢
      simp (disch := omega) only [u2_r]
      exact gi
    refine l_tell (v1 := DUM) c1 gi1 (fun g f1 f2 f3 => ?_) (PL σ).length 0 _ _ (by omega) (fun _ _ _ => rfl) (fun l hl => by simp at hl) (fun _ _ => ⟨rfl, rfl⟩)
    refine Kc g (fun i i1 i2 i3 => ?_) (fun i i1 i2 => ?_) ⟨?_, ?_, fun _ l hl => ?_, fun l l1 l2 => ?_⟩
    · rw [f1 i i2 i3]; simp (disch := omega) only [u2_r]
    · rw [f1 19 (by omega) (by omega), u2_m _ _ _ _ i2, u2_m _ _ _ _ i1]
    · rw [f1 19 (by omega) (by omega), u2_m _ _ _ _ (by omega), u2_s, el]
    · rw [f1 19 (by omega) (by omega), u2_s, e5]
    · rw [e5]; exact f2 l hl
    · obtain ⟨z1, z2⟩ := f3 l l2
      rw [z1, z2]
      simp (disch := omega) only [u2_n]
      exact t4 l l1 l2
  · rw [if_neg h1] at e5 ⊢
    have hne : dn ≠ [] := by
      intro e
      subst e
      exact h1 hc
    refine Kc _ (fun i i1 i2 i3 => u2_r _ _ _ i1) (fun i i1 i2 => u2_m _ _ _ _ i1) ⟨by rw [u2_s, el], ?_, fun _ l hl => ?_, fun l l1 l2 => ?_⟩
    · rw [u2_m _ _ _ _ (by omega), t2, e5]
    · rw [e5]
      simp (disch := omega) only [u2_n]
      exact t3 hne l hl
    · simp (disch := omega) only [u2_n]
      exact t4 l l1 l2
end TELL
