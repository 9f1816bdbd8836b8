/-! what is answered out of the ways: the model's side -/
theorem flm_mem {α : Type} {f : Nat → List α} {x : α} : ∀ n i, x ∈ flm f n i → ∃ c, i ≤ c ∧ c < i + n ∧ x ∈ f c
  | 0, i, h => by simp [flm] at h
  | n + 1, i, h => by
    unfold flm at h
    rw [List.mem_append] at h
    rcases h with h | h
    · exact ⟨i, by omega, by omega, h⟩
    · obtain ⟨c, h1, h2, h3⟩ := flm_mem n (i + 1) h
      exact ⟨c, by omega, by omega, h3⟩
theorem Ws_val {σ : ST} {w : Nat → Nat} : ∀ (Ls dn : List Nat) (j : Nat → Nat), Ls.Nodup → w ∈ Ws σ Ls dn j → (∀ l, l ∈ Ls → w l < on σ l 6) ∧ ∀ l, l ∉ Ls → w l = j l
  | [], dn, j, hn, h => by
    simp [Ws] at h
    subst h
    exact ⟨fun l hl => by simp at hl, fun l _ => rfl⟩
  | x :: Ls, dn, j, hn, h => by
    obtain ⟨hn1, hn2⟩ := List.nodup_cons.mp hn
    unfold Ws at h
    obtain ⟨c, _, hc, hw⟩ := flm_mem _ _ h
    split at hw
    · obtain ⟨h1, h2⟩ := Ws_val Ls (x :: dn) (pu j x c) hn2 hw
      refine ⟨fun l hl => ?_, fun l hl => ?_⟩
      · rcases List.mem_cons.mp hl with rfl | hl
        · rw [h2 l hn1, pu_s]; omega
        · exact h1 l hl
      · rw [List.mem_cons, not_or] at hl
        rw [h2 l hl.2, pu_n _ hl.1]
    · simp at hw
theorem wyl_val {σ : ST} {w : Nat → Nat} (h : w ∈ wyl σ) : ∀ l, l ∈ PL σ → w l < on σ l 6 := (Ws_val _ _ _ (pl_nd _) (List.mem_of_mem_take h)).1
theorem bb_mem {σ : ST} {ws : List (Nat → Nat)} (hc : ∀ w, w ∈ ws → cnt σ w < 7) (hn : ws ≠ []) : (bb σ ws).2 ∈ ws := by
  have key : ∀ (ws : List (Nat → Nat)) (s : Nat × (Nat → Nat)), (ws.foldl (fun s w => if cnt σ w < s.1 then (cnt σ w, w) else s) s).2 ∈ ws ∨ ws.foldl (fun s w => if cnt σ w < s.1 then (cnt σ w, w) else s) s = s := by
    intro ws
    induction ws with
    | nil => intro s; exact Or.inr rfl
    | cons w ws ih =>
      intro s
      rw [List.foldl_cons]
      rcases ih (if cnt σ w < s.1 then (cnt σ w, w) else s) with h | h
      · exact Or.inl (List.mem_cons_of_mem _ h)
      · rw [h]
        split
        · exact Or.inl List.mem_cons_self
        · exact Or.inr rfl
  cases ws with
  | nil => exact absurd rfl hn
  | cons w ws =>
    unfold bb
    rw [List.foldl_cons, if_pos (hc w List.mem_cons_self)]
    rcases key ws (cnt σ w, w) with h | h
    · exact List.mem_cons_of_mem _ h
    · rw [h]; exact List.mem_cons_self
theorem bst_val {σ : ST} (w : WF σ) (hn : 0 < (wyl σ).length) : ∀ l, l ∈ PL σ → (bb σ (wyl σ)).2 l < on σ l 6 := by
  refine wyl_val (bb_mem (fun x hx => cnt_lt (fun l hl => st_ok w (wyl_val hx l hl))) ?_)
  intro e
  rw [e] at hn
  simp at hn
noncomputable def rf (σ : ST) : Int32 := if 8 < (PL σ).length then -4 else if (wyl σ).length = 0 then -3 else 0
theorem rf_0 {σ : ST} (h : rf σ = 0) : (PL σ).length ≤ 8 ∧ 0 < (wyl σ).length := by
  unfold rf at h
  split at h
  · exact absurd h (by decide)
  · split at h
    · exact absurd h (by decide)
    · omega
noncomputable def mmy (σ : ST) (l : Nat) : Nat := if (σ 18 0).testBit l = true then 0 else mayN σ (wyl σ) l
theorem mmy_lt {σ : ST} {l : Nat} (hl : l < σ 11 0) : mmy σ l < 64 := by
  unfold mmy
  split
  · omega
  · rename_i h
    exact may_lt _ (fun w hw => (op_ok (wyl_val hw l (PL_mem.mpr ⟨hl, h⟩))).1)
noncomputable def bstA (σ : ST) (l u : Nat) : Int32 := if (σ 18 0).testBit l = true then -1 else if u = 0 then nI (oR σ l ((bb σ (wyl σ)).2 l)) else nI (oT σ l ((bb σ (wyl σ)).2 l))
noncomputable def stB (σ : ST) (l : Nat) : Nat → Nat
  | 0 => 0
  | r + 1 => stB σ l r ||| (if (mmy σ l).testBit r = true then 2 ^ stone σ r else 0)
theorem stB_lt {σ : ST} {l : Nat} (w : WF σ) : ∀ r, r ≤ σ 2 0 → stB σ l r < 64
  | 0, _ => by simp [stB]
  | r + 1, hr => by
    have h1 := stB_lt (l := l) w r (by omega)
    have h2 := stone_lt w 6 r (by omega)
    have h3 := w.2.1.1
    unfold stB
    refine Nat.or_lt_two_pow (n := 6) h1 ?_
    split
    · exact Nat.pow_lt_pow_right (by omega) (by show stn σ 6 r < 6; omega)
    · omega
noncomputable def stN (σ : ST) (l : Nat) : Nat := pcn (stB σ l (σ 2 0)) 16
theorem stN_le {σ : ST} {l : Nat} : stN σ l ≤ 16 := pcn_le _ _
theorem stB_0 {σ : ST} {l : Nat} (h : (σ 18 0).testBit l = true) : ∀ r, stB σ l r = 0
  | 0 => rfl
  | r + 1 => by
    unfold stB
    rw [stB_0 h r]
    unfold mmy
    rw [if_pos h]
    simp
theorem pcn_0 : ∀ k, pcn 0 k = 0
  | 0 => rfl
  | k + 1 => by unfold pcn; rw [pcn_0 k]; simp
theorem stN_0 {σ : ST} {l : Nat} (h : (σ 18 0).testBit l = true) : stN σ l = 0 := by
  unfold stN
  rw [stB_0 h]
  exact pcn_0 _
noncomputable def isB (σ : ST) (l h : Nat) : Bool := (mmy σ l).testBit (σ 7 h) && decide (spn (σ 9 h) (σ 10 h) &&& (ld σ l &&& dys σ (σ 7 h)) ≠ 0)
noncomputable def prB (σ : ST) (l : Nat) : Nat → Nat
  | 0 => 0
  | h + 1 => prB σ l h ||| (if isB σ l h = true then 2 ^ σ 8 h else 0)
noncomputable def wthC (σ : ST) (l : Nat) : Nat := if stN σ l < 2 ∨ pcn (σ 13 l) 16 < 1 then 0 else stN σ l * 17 + pcn (σ 13 l) 16
/-- the lump to clean, and one (0 none), and its worth -/
noncomputable def clF (σ : ST) : Nat → Nat × Nat
  | 0 => (0, 0)
  | l + 1 => if (clF σ l).2 < wthC σ l then (l + 1, wthC σ l) else clF σ l
noncomputable def aWays (σ : ST) : Int32 := if 8 < (PL σ).length then -4 else nI (wyl σ).length
noncomputable def orR (σ : ST) (v : Int32) : Int32 := if rf σ = 0 then v else rf σ
noncomputable def aStones (σ : ST) : Int32 := orR σ (nI (bb σ (wyl σ)).1)
noncomputable def aBestN (σ : ST) (l u : Nat) : Int32 := orR σ (bstA σ l u)
noncomputable def aMayN (σ : ST) (l : Nat) : Int32 := orR σ (nI (mmy σ l))
noncomputable def aSure (σ : ST) : Int32 := orR σ (nI (bts (fun l => decide (stN σ l = 1)) (σ 11 0)))
noncomputable def aPress (σ : ST) (l : Nat) : Int32 := orR σ (nI (prB σ l (σ 6 0)))
noncomputable def aEmpty (σ : ST) : Int32 := orR σ (nI (bts (fun h => !anyF (fun l => isB σ l h) (σ 11 0) 0) (σ 6 0)))
noncomputable def aClean (σ : ST) : Int32 := orR σ (oI (clF σ (σ 11 0)).1)
/-- the model's cells are fresh -/
def MFr (t : Nat → Nat) (n : Nat) (σ τ : ST) (g : Nat → Nat → Int32) (hj : Nat → Nat → Int64) : Prop := MR t n σ τ g hj ∧ ((PL σ).length ≤ 8 → g 51 13 = nI 1 ∧ FM σ g hj)
section REF
variable {X : AX} {d : Nat} {Q : Option Value → AH → Prop} {g : Nat → Nat → Int32} {hj : Nat → Nat → Int64} {σ τ : ST} {t : Nat → Nat} {n : Nat}
abbrev KFr (g : Nat → Nat → Int32) (hj : Nat → Nat → Int64) (Q : Option Value → AH → Prop) (t : Nat → Nat) (n : Nat) (σ τ : ST) (v : Int32) : Prop := ∀ g' hj', MFr t n σ τ g' hj' → (∀ k, k ≤ 50 → g' k = g k) → (∀ k, k ≤ 50 → hj' k = hj k) → Q (some (.int v)) (HP g' hj')
theorem l_M_works {v0 : Value} (c : M0 σ g hj) (Kc : ∀ g2 v1, (∀ k, k ≠ 78 → g2 k = g k) → (∀ l, l < σ 11 0 → g2 78 l = nI 0) → wp X (d + 6) m_M_works 63 [.ref 51, v1] [] (HP g2 hj) Q) :
    ∀ (m l : Nat) (g2 : Nat → Nat → Int32), l + m = σ 11 0 → (∀ k, k ≠ 78 → g2 k = g k) → (∀ x, x < l → g2 78 x = nI 0) → wp X (d + 6) m_M_works 42 [.ref 51, .int (nI l)] [] (HP g2 hj) Q
  | 0, l, g2, hl, e1, e2 => by
    have w := c.1.2.2.2.1.1
    have e0 : g2 51 14 = nI (σ 11 0) := by rw [e1 51 (by omega)]; exact c.2.2.2.1
    have : l = σ 11 0 := by omega
    subst this
    rw [s_M_works_42]
    simp (disch := omega) only [↓s_M_works_43, ↓s_M_works_44, ↓s_M_works_47, nI_leI, nI_ltI, nI_eq, N_z, nI_add, pk_sub, pk_mul, kL_i, kL_r, kL_d, kL_l, kL_k, kL_f, Option.toList_some, Option.toList_none, List.cons_append, List.nil_append, bI_z, N_and, N_or, N_shl, N_shr, Nat.one_mul, Nat.reduceAdd, lg_cmp_eq, L_and, L_or, bI_1, bI_0, if_true, if_false, reduceIte, N_m1x, ite_not, e0, Nat.le_refl]
    exact Kc g2 _ e1 e2
  | m + 1, l, g2, hl, e1, e2 => by
    have w := c.1.2.2.2.1.1
    have e0 : g2 51 14 = nI (σ 11 0) := by rw [e1 51 (by omega)]; exact c.2.2.2.1
    rw [s_M_works_42]
    simp (disch := omega) only [↓s_M_works_43, ↓s_M_works_44, ↓s_M_works_47, ↓s_M_works_50, ↓s_M_works_51, ↓s_M_works_54, ↓s_M_works_55, ↓s_M_works_56, ↓s_M_works_57, ↓s_M_works_60, nI_leI, nI_ltI, nI_eq, N_z, nI_add, pk_sub, pk_mul, kL_i, kL_r, kL_d, kL_l, kL_k, kL_f, Option.toList_some, Option.toList_none, List.cons_append, List.nil_append, bI_z, N_and, N_or, N_shl, N_shr, Nat.one_mul, Nat.reduceAdd, lg_cmp_eq, L_and, L_or, bI_1, bI_0, if_true, if_false, reduceIte, N_m1x, ite_not, e0]
    rw [if_neg (by omega)]
    refine l_M_works (v0 := v0) c Kc m (l + 1) _ (by omega) (fun k hk => ?_) (fun x hx => ?_)
    · rw [u2_r _ _ _ hk]; exact e1 k hk
    · by_cases e : x = l
      · subst e; rw [u2_s]
      · rw [u2_m _ _ _ _ e]; exact e2 x (by omega)
theorem c_M_works (c : MR t n σ τ g hj) (K : ∀ g' hj', MFr t n σ τ g' hj' → (∀ k, k ≤ 50 → g' k = g k) → (∀ k, k ≤ 50 → hj' k = hj k) → Q (some (.int (bI (¬ 8 < (PL σ).length)))) (HP g' hj')) : cwp X (d + 6) m_M_works [.ref 51] (HP g hj) Q := by
  have w0 := c.2.1.1
  have w := w0.2.2.2.1.1
  have hp : prs σ < 65536 := Nat.lt_of_lt_of_le (prs_lt σ) (pow_le (show σ 11 0 ≤ 16 by omega))
  have hl : (PL σ).length ≤ 12 := Nat.le_trans (pl_len _) w
  simp (disch := omega) only [e_M_works, ↓s_M_works_0, ↓s_M_works_1, ↓s_M_works_4, ↓s_M_works_7, ↓s_M_works_9, ↓s_M_works_12, ↓s_M_works_13_0, ↓s_M_works_13_1, ↓s_M_works_13_b, c_M_present c.2.1, c_M_onesOf, len_PL w, nI_leI, nI_ltI, nI_eq, N_z, nI_add, pk_sub, pk_mul, kL_i, kL_r, kL_d, kL_l, kL_k, kL_f, Option.toList_some, Option.toList_none, List.cons_append, List.nil_append, bI_z, N_and, N_or, N_shl, N_shr, Nat.one_mul, Nat.reduceAdd, lg_cmp_eq, L_and, L_or, bI_1, bI_0, if_true, if_false, reduceIte, N_m1x, ite_not]
  by_cases h8 : 8 < (PL σ).length
  · rw [if_neg (by omega)]
    have := K g hj ⟨c, fun z => by omega⟩ (fun _ _ => rfl) (fun _ _ => rfl)
    rw [bI_f (fun z => z h8)] at this
    exact this
  rw [if_pos (by omega)]
  rw [bI_t h8] at K
  rcases c.2.2.1 with hw | ⟨hw, hf⟩
  · simp (disch := omega) only [↓s_M_works_14, ↓s_M_works_15, ↓s_M_works_18, ↓s_M_works_21, ↓s_M_works_22, ↓s_M_works_23_0, ↓s_M_works_23_1, ↓s_M_works_26, ↓s_M_works_27, nI_leI, nI_ltI, nI_eq, N_z, nI_add, pk_sub, pk_mul, kL_i, kL_r, kL_d, kL_l, kL_k, kL_f, Option.toList_some, Option.toList_none, List.cons_append, List.nil_append, bI_z, N_and, N_or, N_shl, N_shr, Nat.one_mul, Nat.reduceAdd, lg_cmp_eq, L_and, L_or, bI_1, bI_0, if_true, if_false, reduceIte, N_m1x, ite_not, Nat.one_ne_zero, Nat.zero_ne_one, eq_self, not_true_eq_false, not_false_eq_true, hw]
    have c1 : M0 σ (up2 g 51 13 (nI 1)) hj := M0_cg c.2.1 (u2_m _ _ _ _ (by omega)) (u2_m _ _ _ _ (by omega)) (u2_m _ _ _ _ (by omega)) (u2_m _ _ _ _ (by omega)) (fun k _ _ => u2_r _ _ _ (by omega))
    refine c_M_options c1 (fun g2 hj2 f1 f2 f3 => ?_)
    have c2 : M0 σ g2 hj2 := M0_cg c1 (by rw [f1 51 (by omega)]) (by rw [f1 51 (by omega)]) (by rw [f1 51 (by omega)]) (by rw [f1 51 (by omega)]) (fun k _ _ => f1 k (by omega))
    simp (disch := omega) only [↓s_M_works_30, ↓s_M_works_31, ↓s_M_works_32, ↓s_M_works_35, ↓s_M_works_36, ↓s_M_works_37, ↓s_M_works_40, ↓s_M_works_41, nI_leI, nI_ltI, nI_eq, N_z, nI_add, pk_sub, pk_mul, kL_i, kL_r, kL_d, kL_l, kL_k, kL_f, Option.toList_some, Option.toList_none, List.cons_append, List.nil_append, bI_z, N_and, N_or, N_shl, N_shr, Nat.one_mul, Nat.reduceAdd, lg_cmp_eq, L_and, L_or, bI_1, bI_0, if_true, if_false, reduceIte, N_m1x, ite_not]
    have c3 : M0 σ (up2 (up2 g2 51 34 (nI 0)) 51 35 (nI 0)) hj2 := M0_cg c2 (by simp (disch := omega) only [u2_s, u2_n, u2_m]) (by simp (disch := omega) only [u2_s, u2_n, u2_m]) (by simp (disch := omega) only [u2_s, u2_n, u2_m]) (by simp (disch := omega) only [u2_s, u2_n, u2_m]) (fun k h1 h2 => by simp (disch := omega) only [u2_r])
    refine l_M_works (v0 := DUM) c3 (fun g3 v1 q1 q2 => ?_) (σ 11 0) 0 _ (by omega) (fun _ _ => rfl) (fun x hx => by omega)
    have c4 : M0 σ g3 hj2 := M0_cg c3 (by rw [q1 51 (by omega)]) (by rw [q1 51 (by omega)]) (by rw [q1 51 (by omega)]) (by rw [q1 51 (by omega)]) (fun k _ _ => q1 k (by omega))
    have ro : rdOp g3 hj2 σ := rdOp_cg f3 (fun k _ _ => by rw [q1 k (by omega)]; simp (disch := omega) only [u2_r]) rfl
    simp (disch := omega) only [↓s_M_works_63, ↓s_M_works_64, ↓s_M_works_65, ↓s_M_works_66, ↓s_M_works_69, ↓s_M_works_72, ↓s_M_works_73, c_M_present c4, nI_leI, nI_ltI, nI_eq, N_z, nI_add, pk_sub, pk_mul, kL_i, kL_r, kL_d, kL_l, kL_k, kL_f, Option.toList_some, Option.toList_none, List.cons_append, List.nil_append, bI_z, N_and, N_or, N_shl, N_shr, Nat.one_mul, Nat.reduceAdd, lg_cmp_eq, L_and, L_or, bI_1, bI_0, if_true, if_false, reduceIte, N_m1x, ite_not]
    refine c_M_goes1 c4 ro q2 (by rw [q1 51 (by omega)]; simp (disch := omega) only [u2_s, u2_n, u2_m]) (fun g4 r1 r2 r3 => ?_)
    simp (disch := omega) only [↓s_M_works_76, ↓s_M_works_79, ↓s_M_works_80_0, ↓s_M_works_80_1, ↓s_M_works_80_b, nI_leI, nI_ltI, nI_eq, N_z, nI_add, pk_sub, pk_mul, kL_i, kL_r, kL_d, kL_l, kL_k, kL_f, Option.toList_some, Option.toList_none, List.cons_append, List.nil_append, bI_z, N_and, N_or, N_shl, N_shr, Nat.one_mul, Nat.reduceAdd, lg_cmp_eq, L_and, L_or, bI_1, bI_0, if_true, if_false, reduceIte, N_m1x, ite_not]
    obtain ⟨⟨t1, t2, t3, t4⟩, t5⟩ := r3
    have b51 : ∀ i, i ≠ 13 → i ≠ 30 → i ≠ 34 → i ≠ 35 → up2 g4 51 34 (nI (wyl σ).length) 51 i = g 51 i := by
      intro i i1 i2 i3 i4
      rw [u2_m _ _ _ _ i3, r2 i i2 i3 i4, q1 51 (by omega), u2_m _ _ _ _ i4, u2_m _ _ _ _ i3, f1 51 (by omega), u2_m _ _ _ _ i1]
    have bk : ∀ k, k ≠ 51 → (k ≤ 65 ∨ 79 ≤ k) → up2 g4 51 34 (nI (wyl σ).length) k = g k := by
      intro k k1 k2
      rw [u2_r _ _ _ k1, r1 k k1 (by omega), q1 k (by omega), u2_r _ _ _ k1, u2_r _ _ _ k1, f1 k (by omega), u2_r _ _ _ k1]
    have e13 : up2 g4 51 34 (nI (wyl σ).length) 51 13 = nI 1 := by
      rw [u2_m _ _ _ _ (by omega), r2 13 (by omega) (by omega) (by omega), q1 51 (by omega), u2_m _ _ _ _ (by omega), u2_m _ _ _ _ (by omega), f1 51 (by omega), u2_s]
    have fm : FM σ (up2 g4 51 34 (nI (wyl σ).length)) hj2 := by
      refine ⟨by omega, rdOp_cg ro (fun k _ _ => by rw [u2_r _ _ _ (by omega), r1 k (by omega) (by omega)]) rfl, u2_s _ _ _ _, fun hn => ?_, fun l hl => ?_⟩
      · rw [u2_m _ _ _ _ (by omega)]
        exact (t2 (fun e => by rw [e] at hn; simp at hn)).1
      · rw [u2_r _ _ _ (by omega), u2_r _ _ _ (by omega)]
        split
        · rename_i ha
          exact t4 l hl (fun z => (PL_mem.mp z).2 ha)
        · rename_i ha
          have hm := PL_mem.mpr ⟨hl, ha⟩
          exact ⟨fun hn => (t2 (fun e => by rw [e] at hn; simp at hn)).2 l hm, t3 l hm⟩
    refine K _ _ ⟨⟨rdL_cg c.1 (b51 0 (by omega) (by omega) (by omega) (by omega)) (bk 52 (by omega) (by omega)), M0_cg c.2.1 (b51 _ (by omega) (by omega) (by omega) (by omega)) (b51 _ (by omega) (by omega) (by omega) (by omega)) (b51 _ (by omega) (by omega) (by omega) (by omega)) (b51 _ (by omega) (by omega) (by omega) (by omega)) (fun k _ _ => bk k (by omega) (by omega)), Or.inr ⟨e13, fm⟩, MS_cg c.2.2.2 (b51 _ (by omega) (by omega) (by omega) (by omega)) (fun k _ _ => bk k (by omega) (by omega))⟩, fun _ => ⟨e13, fm⟩⟩ (fun k hk => bk k (by omega) (by omega)) (fun k hk => f2 k (by omega))
  · simp (disch := omega) only [↓s_M_works_14, ↓s_M_works_15, ↓s_M_works_18, ↓s_M_works_79, ↓s_M_works_80_0, ↓s_M_works_80_1, ↓s_M_works_80_b, nI_leI, nI_ltI, nI_eq, N_z, nI_add, pk_sub, pk_mul, kL_i, kL_r, kL_d, kL_l, kL_k, kL_f, Option.toList_some, Option.toList_none, List.cons_append, List.nil_append, bI_z, N_and, N_or, N_shl, N_shr, Nat.one_mul, Nat.reduceAdd, lg_cmp_eq, L_and, L_or, bI_1, bI_0, if_true, if_false, reduceIte, N_m1x, ite_not, Nat.one_ne_zero, Nat.zero_ne_one, eq_self, not_true_eq_false, not_false_eq_true, hw]
    exact K g hj ⟨c, fun _ => ⟨hw, hf⟩⟩ (fun _ _ => rfl) (fun _ _ => rfl)
theorem wyl_len (σ : ST) : (wyl σ).length ≤ 20000 := by
  unfold wyl
  rw [List.length_take]
  exact Nat.min_le_left _ _
theorem c_M_refuses (c : MR t n σ τ g hj) (K : KFr g hj Q t n σ τ (rf σ)) : cwp X (d + 7) m_M_refuses [.ref 51] (HP g hj) Q := by
  simp only [e_M_refuses, ↓s_M_refuses_0, ↓s_M_refuses_1]
  refine c_M_works c (fun g' hj' c' e1 e2 => ?_)
  have := K g' hj' c' e1 e2
  unfold rf at this
  have wl := wyl_len σ
  simp (disch := omega) only [↓s_M_refuses_4, ↓s_M_refuses_7, ↓s_M_refuses_9, ↓s_M_refuses_25, nI_leI, nI_ltI, nI_eq, N_z, nI_add, pk_sub, pk_mul, kL_i, kL_r, kL_d, kL_l, kL_k, kL_f, Option.toList_some, Option.toList_none, List.cons_append, List.nil_append, bI_z, N_and, N_or, N_shl, N_shr, Nat.one_mul, Nat.reduceAdd, lg_cmp_eq, L_and, L_or, bI_1, bI_0, if_true, if_false, reduceIte, N_m1x, ite_not]
  by_cases h8 : 8 < (PL σ).length
  · rw [if_pos h8] at this ⊢
    exact this
  · rw [if_neg h8] at this ⊢
    have e34 := (c'.2 (by omega)).2.2.2.1
    simp (disch := omega) only [↓s_M_refuses_12, ↓s_M_refuses_13, ↓s_M_refuses_16, ↓s_M_refuses_19, ↓s_M_refuses_21, ↓s_M_refuses_24, ↓s_M_refuses_25, nI_leI, nI_ltI, nI_eq, N_z, nI_add, pk_sub, pk_mul, kL_i, kL_r, kL_d, kL_l, kL_k, kL_f, Option.toList_some, Option.toList_none, List.cons_append, List.nil_append, bI_z, N_and, N_or, N_shl, N_shr, Nat.one_mul, Nat.reduceAdd, lg_cmp_eq, L_and, L_or, bI_1, bI_0, if_true, if_false, reduceIte, N_m1x, ite_not, e34]
    by_cases h0 : (wyl σ).length = 0
    · rw [if_pos h0] at this ⊢
      exact this
    · rw [if_neg h0] at this ⊢
      exact this
end REF
