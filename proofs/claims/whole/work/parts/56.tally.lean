/-! the model's tallies -/
theorem stw_app (σ : ST) (w : Nat → Nat) : ∀ (A B : List Nat) (a : Nat), stw σ w (A ++ B) a = stw σ w B (stw σ w A a)
  | [], B, a => rfl
  | l :: A, B, a => by
    show stw σ w (A ++ B) _ = _
    rw [stw_app σ w A B]
    rfl
theorem stw_lt {σ : ST} {w : Nat → Nat} : ∀ (A : List Nat) (a : Nat), a < 64 → (∀ l, l ∈ A → stone σ (oR σ l (w l)) < 6) → stw σ w A a < 64
  | [], a, h, _ => h
  | l :: A, a, h, hs => by
    refine stw_lt A _ (Nat.or_lt_two_pow (n := 6) h ?_) (fun x hx => hs x (List.mem_cons_of_mem _ hx))
    exact Nat.pow_lt_pow_right (by omega) (hs l List.mem_cons_self)
theorem pcn_bd {x k : Nat} (h : x < 2 ^ k) : ∀ n, pcn x n ≤ k
  | 0 => by unfold pcn; omega
  | n + 1 => by
    by_cases hk : k ≤ n
    · have := pcn_bd h n
      unfold pcn
      rw [dm_tb, lt_tb h hk]
      simp
      exact this
    · have := pcn_le x (n + 1)
      omega
theorem cnt_lt {σ : ST} {w : Nat → Nat} (hs : ∀ l, l ∈ PL σ → stone σ (oR σ l (w l)) < 6) : cnt σ w < 7 := by
  have := pcn_bd (k := 6) (stw_lt (PL σ) 0 (by omega) hs) 16
  unfold cnt
  omega
theorem bb_app (σ : ST) (ws : List (Nat → Nat)) (w : Nat → Nat) : bb σ (ws ++ [w]) = if cnt σ w < (bb σ ws).1 then (cnt σ w, w) else bb σ ws := by
  unfold bb
  rw [List.foldl_append]
  rfl
theorem may_app (σ : ST) (ws : List (Nat → Nat)) (w : Nat → Nat) (l : Nat) : mayN σ (ws ++ [w]) l = mayN σ ws l ||| 2 ^ oR σ l (w l) := by
  unfold mayN
  rw [List.foldl_append]
  rfl
theorem pl_mem {σ : ST} {l : Nat} : ∀ m, l ∈ pl σ m ↔ l < m ∧ ¬ (σ 18 0).testBit l = true
  | 0 => by simp [pl]
  | m + 1 => by
    have ih := pl_mem (σ := σ) (l := l) m
    unfold pl
    by_cases h : (σ 18 0).testBit m = true
    · rw [if_pos h, ih]
      constructor
      · rintro ⟨a, b⟩; exact ⟨by omega, b⟩
      · rintro ⟨a, b⟩
        refine ⟨?_, b⟩
        by_cases e : l = m
        · subst e; exact absurd h b
        · omega
    · rw [if_neg h, List.mem_append, ih]
      simp only [List.mem_singleton]
      constructor
      · rintro (⟨a, b⟩ | rfl)
        · exact ⟨by omega, b⟩
        · exact ⟨by omega, h⟩
      · rintro ⟨a, b⟩
        by_cases e : l = m
        · exact Or.inr e
        · exact Or.inl ⟨by omega, b⟩
theorem pl_nd {σ : ST} : ∀ m, (pl σ m).Nodup
  | 0 => by simp [pl]
  | m + 1 => by
    have ih := pl_nd (σ := σ) m
    unfold pl
    split
    · exact ih
    · rw [List.nodup_append]
      refine ⟨ih, by simp, ?_⟩
      intro a ha b hb
      simp only [List.mem_singleton] at hb
      subst hb
      rintro rfl
      have := (pl_mem a).mp ha
      omega
theorem pl_len {σ : ST} : ∀ m, (pl σ m).length ≤ m
  | 0 => Nat.le_refl 0
  | m + 1 => by
    have := pl_len (σ := σ) m
    unfold pl
    split
    · omega
    · rw [List.length_append]; simp; omega
theorem PL_mem {σ : ST} {l : Nat} : l ∈ PL σ ↔ l < σ 11 0 ∧ ¬ (σ 18 0).testBit l = true := pl_mem _
/-- where the search of the model stands, in its cells -/
def TI (σ : ST) (dn : List (Nat → Nat)) (g : Nat → Nat → Int32) : Prop := g 51 34 = nI dn.length ∧ (dn ≠ [] → g 51 35 = nI (bb σ dn).1 ∧ ∀ l, l ∈ PL σ → g 77 l = nI (24 * l + (bb σ dn).2 l)) ∧ (∀ l, l ∈ PL σ → g 78 l = nI (mayN σ dn l)) ∧ ∀ l, l < σ 11 0 → l ∉ PL σ → g 78 l = nI 0
section TALLY
variable {X : AX} {d : Nat} {Q : Option Value → AH → Prop} {g0 : Nat → Nat → Int32} {hj : Nat → Nat → Int64} {σ : ST} {j : Nat → Nat}
theorem tk_s {Ls : List Nat} {k : Nat} (h : k < Ls.length) : Ls.take (k + 1) = Ls.take k ++ [Ls.getD k 0] := by
  rw [List.take_succ, List.getElem?_eq_getElem h, List.getD_eq_getElem?_getD, List.getElem?_eq_getElem h]
  rfl
theorem tk_mem {Ls : List Nat} {k l : Nat} (hk : k ≤ Ls.length) : l ∈ Ls.take k ↔ ∃ p, p < k ∧ l = Ls.getD p 0 := by
  induction k with
  | zero => simp
  | succ k ih =>
    rw [tk_s (by omega), List.mem_append, ih (by omega), List.mem_singleton]
    constructor
    · rintro (⟨p, a, b⟩ | e)
      · exact ⟨p, by omega, b⟩
      · exact ⟨k, by omega, e⟩
    · rintro ⟨p, a, b⟩
      by_cases e : p = k
      · subst e; exact Or.inr b
      · exact Or.inl ⟨p, by omega, b⟩
theorem st_ok {l i : Nat} (w : WF σ) (h : i < on σ l 6) : stone σ (oR σ l i) < 6 := by
  have h1 := (op_ok h).2.1
  have h2 := stone_lt w 6 _ h1
  have h3 := w.2.1.1
  show stn σ 6 _ < 6
  omega
theorem may_lt {l : Nat} : ∀ (dn : List (Nat → Nat)), (∀ w, w ∈ dn → oR σ l (w l) < 6) → mayN σ dn l < 64 := by
  intro dn
  unfold mayN
  suffices h : ∀ (dn : List (Nat → Nat)) (a : Nat), a < 64 → (∀ w, w ∈ dn → oR σ l (w l) < 6) → dn.foldl (fun m w => m ||| 2 ^ oR σ l (w l)) a < 64 by
    exact fun hh => h dn 0 (by omega) hh
  intro dn
  induction dn with
  | nil => intro a ha _; exact ha
  | cons w dn ih =>
    intro a ha hh
    exact ih _ (Nat.or_lt_two_pow (n := 6) ha (Nat.pow_lt_pow_right (by omega) (hh w List.mem_cons_self))) (fun x hx => hh x (List.mem_cons_of_mem _ hx))
theorem l_M_tallies1 {Ls : List Nat} {m0 : Nat → Nat} {n : Nat} (hn : n = Ls.length) (hn0 : 0 < n) (a0 : AP σ g0 hj Ls j (n - 1)) (ho : g0 51 30 = nI n) (hm : ∀ l, l ∈ Ls → g0 78 l = nI (m0 l) ∧ m0 l < 64)
    (Kc : ∀ g v3, (∀ k, k ≤ 77 ∨ 79 ≤ k → g k = g0 k) → (∀ l, l ∈ Ls → g 78 l = nI (m0 l ||| 2 ^ oR σ l (j l))) → (∀ l, l ∉ Ls → g 78 l = g0 78 l) → wp X (d + 1) m_M_tallies 62 [.ref 51, .int (nI (stw σ j Ls 0)), .int (nI n), v3] [] (HP g hj) Q) :
    ∀ (m k : Nat) (g : Nat → Nat → Int32) (v3 : Value), k + m = n → (∀ k, k ≤ 77 ∨ 79 ≤ k → g k = g0 k) → (∀ l, l ∈ Ls.take k → g 78 l = nI (m0 l ||| 2 ^ oR σ l (j l))) → (∀ l, l ∉ Ls.take k → g 78 l = g0 78 l) →
    wp X (d + 1) m_M_tallies 4 [.ref 51, .int (nI (stw σ j (Ls.take k) 0)), .int (nI k), v3] [] (HP g hj) Q
  | 0, k, g, v3, hk, e1, e2, e3 => by
    obtain ⟨_, _, _, _, _, _, _, a8⟩ := a0
    have e0 : g 51 30 = nI n := by rw [e1 51 (by omega)]; exact ho
    have hkk : k = Ls.length := by omega
    rw [hkk, List.take_length] at e2 e3
    rw [s_M_tallies_4]
    simp (disch := omega) only [↓s_M_tallies_5, ↓s_M_tallies_6, ↓s_M_tallies_9, nI_leI, nI_ltI, nI_eq, N_z, nI_add, pk_sub, pk_mul, kL_i, kL_r, kL_d, kL_l, kL_k, kL_f, Option.toList_some, Option.toList_none, List.cons_append, List.nil_append, bI_z, N_and, N_or, N_shl, N_shr, Nat.one_mul, Nat.reduceAdd, lg_cmp_eq, L_and, L_or, bI_1, bI_0, if_true, if_false, reduceIte, N_m1x, ite_not, e0]
    rw [if_pos (by omega), hkk, List.take_length]
    have := Kc g v3 e1 e2 e3
    rw [hn] at this
    exact this
  | m + 1, k, g, v3, hk, e1, e2, e3 => by
    have e0 : g 51 30 = nI n := by rw [e1 51 (by omega)]; exact ho
    have a := AP_cg a0 (g2 := g) (fun x hx => e1 x (by omega))
    obtain ⟨r1, r2, r3, r4, r5, r6, r7, r8, r9⟩ := AP_rd a (show k ≤ n - 1 by omega)
    obtain ⟨a1, a2, a3, a4, a5, a6, a7, a8⟩ := id a
    have w := a1.1
    have w1 := w.2.2.2.1.1
    have w2 := w.2.1.1
    have hst : ∀ l, l ∈ Ls.take k → stone σ (oR σ l (j l)) < 6 := by
      intro l hl
      obtain ⟨p, p1, p2⟩ := (tk_mem (by omega)).mp hl
      subst p2
      exact st_ok w (a4 p (by omega)).2
    have l1 := stw_lt (Ls.take k) 0 (by omega) hst
    have l2 : stone σ (oR σ (Ls.getD k 0) (j (Ls.getD k 0))) < 6 := st_ok w (a4 k (by omega)).2
    have hnk : Ls.getD k 0 ∉ Ls.take k := by
      intro h
      obtain ⟨p, p1, p2⟩ := (tk_mem (by omega)).mp h
      have := gD_inj a5 (by omega) (by omega) p2
      omega
    have hmk := hm _ (gD_mem (show k < Ls.length by omega))
    have e4 : g 78 (Ls.getD k 0) = nI (m0 (Ls.getD k 0)) := by rw [e3 _ hnk]; exact hmk.1
    have e5 : stw σ j (Ls.take (k + 1)) 0 = stw σ j (Ls.take k) 0 ||| 2 ^ stone σ (oR σ (Ls.getD k 0) (j (Ls.getD k 0))) := by
      rw [tk_s (by omega), stw_app]
      rfl
    rw [s_M_tallies_4]
    simp (disch := omega) only [↓s_M_tallies_5, ↓s_M_tallies_6, ↓s_M_tallies_9, ↓s_M_tallies_12, ↓s_M_tallies_13, ↓s_M_tallies_16, ↓s_M_tallies_17, ↓s_M_tallies_20, ↓s_M_tallies_21, ↓s_M_tallies_24, ↓s_M_tallies_25, ↓s_M_tallies_26, ↓s_M_tallies_27, ↓s_M_tallies_28, ↓s_M_tallies_29, ↓s_M_tallies_30, ↓s_M_tallies_31, ↓s_M_tallies_32, ↓s_M_tallies_33, ↓s_M_tallies_36, ↓s_M_tallies_37, ↓s_M_tallies_38, ↓s_M_tallies_39, ↓s_M_tallies_40, ↓s_M_tallies_43, ↓s_M_tallies_44, ↓s_M_tallies_47, ↓s_M_tallies_48, ↓s_M_tallies_49, ↓s_M_tallies_50, ↓s_M_tallies_51, ↓s_M_tallies_52, ↓s_M_tallies_53, ↓s_M_tallies_54, ↓s_M_tallies_55, ↓s_M_tallies_56, ↓s_M_tallies_59, nI_leI, nI_ltI, nI_eq, N_z, nI_add, pk_sub, pk_mul, kL_i, kL_r, kL_d, kL_l, kL_k, kL_f, Option.toList_some, Option.toList_none, List.cons_append, List.nil_append, bI_z, N_and, N_or, N_shl, N_shr, Nat.one_mul, Nat.reduceAdd, lg_cmp_eq, L_and, L_or, bI_1, bI_0, if_true, if_false, reduceIte, N_m1x, ite_not, e0, r3, r4, r5, e4, c_M_stoneOf w a1.2.1, ← e5]
    rw [if_neg (by omega)]
    refine l_M_tallies1 hn hn0 a0 ho hm Kc m (k + 1) _ _ (by omega) (fun x hx => ?_) (fun l hl => ?_) (fun l hl => ?_)
    · simp (disch := omega) only [u2_r]; exact e1 x hx
    · rw [tk_s (by omega), List.mem_append, List.mem_singleton] at hl
      by_cases e : l = Ls.getD k 0
      · subst e; rw [u2_s]
      · rw [u2_m _ _ _ _ e]
        rcases hl with hl | hl
        · exact e2 l hl
        · exact absurd hl e
    · rw [tk_s (by omega), List.mem_append, List.mem_singleton, not_or] at hl
      rw [u2_m _ _ _ _ hl.2]
      exact e3 l hl.1
theorem l_M_tallies2 {Ls : List Nat} {n : Nat} {v1 v2 : Value} (hn : n = Ls.length) (hn0 : 0 < n) (a0 : AP σ g0 hj Ls j (n - 1)) (ho : g0 51 30 = nI n)
    (Kc : ∀ g, (∀ k, k ≤ 76 ∨ 78 ≤ k → g k = g0 k) → (∀ l, l ∈ Ls → g 77 l = nI (24 * l + j l)) → Q none (HP g hj)) :
    ∀ (m k : Nat) (g : Nat → Nat → Int32), k + m = n → (∀ k, k ≤ 76 ∨ 78 ≤ k → g k = g0 k) → (∀ l, l ∈ Ls.take k → g 77 l = nI (24 * l + j l)) →
    wp X (d + 1) m_M_tallies 90 [.ref 51, v1, v2, .int (nI k)] [] (HP g hj) Q
  | 0, k, g, hk, e1, e2 => by
    obtain ⟨_, _, _, _, _, _, _, a8⟩ := a0
    have e0 : g 51 30 = nI n := by rw [e1 51 (by omega)]; exact ho
    have hkk : k = Ls.length := by omega
    rw [hkk, List.take_length] at e2
    rw [s_M_tallies_90]
    simp (disch := omega) only [↓s_M_tallies_91, ↓s_M_tallies_92, ↓s_M_tallies_95, ↓s_M_tallies_126, nI_leI, nI_ltI, nI_eq, N_z, nI_add, pk_sub, pk_mul, kL_i, kL_r, kL_d, kL_l, kL_k, kL_f, Option.toList_some, Option.toList_none, List.cons_append, List.nil_append, bI_z, N_and, N_or, N_shl, N_shr, Nat.one_mul, Nat.reduceAdd, lg_cmp_eq, L_and, L_or, bI_1, bI_0, if_true, if_false, reduceIte, N_m1x, ite_not, e0]
    rw [if_pos (by omega)]
    exact Kc g e1 e2
  | m + 1, k, g, hk, e1, e2 => by
    have e0 : g 51 30 = nI n := by rw [e1 51 (by omega)]; exact ho
    have a := AP_cg a0 (g2 := g) (fun x hx => e1 x (by omega))
    obtain ⟨r1, r2, r3, r4, r5, r6, r7, r8, r9⟩ := AP_rd a (show k ≤ n - 1 by omega)
    obtain ⟨a1, a2, a3, a4, a5, a6, a7, a8⟩ := id a
    have w1 := a1.1.2.2.2.1.1
    rw [s_M_tallies_90]
    simp (disch := omega) only [↓s_M_tallies_91, ↓s_M_tallies_92, ↓s_M_tallies_95, ↓s_M_tallies_98, ↓s_M_tallies_99, ↓s_M_tallies_102, ↓s_M_tallies_103, ↓s_M_tallies_106, ↓s_M_tallies_107, ↓s_M_tallies_108, ↓s_M_tallies_109, ↓s_M_tallies_112, ↓s_M_tallies_113, ↓s_M_tallies_116, ↓s_M_tallies_117, ↓s_M_tallies_118, ↓s_M_tallies_119, ↓s_M_tallies_120, ↓s_M_tallies_123, nI_leI, nI_ltI, nI_eq, N_z, nI_add, pk_sub, pk_mul, kL_i, kL_r, kL_d, kL_l, kL_k, kL_f, Option.toList_some, Option.toList_none, List.cons_append, List.nil_append, bI_z, N_and, N_or, N_shl, N_shr, Nat.one_mul, Nat.reduceAdd, lg_cmp_eq, L_and, L_or, bI_1, bI_0, if_true, if_false, reduceIte, N_m1x, ite_not, e0, r3, r4]
    rw [if_neg (by omega)]
    have hv : ∀ v : Value, killL (killL v) = killL v := kL_k
    refine l_M_tallies2 hn hn0 a0 ho Kc m (k + 1) _ (by omega) (fun x hx => ?_) (fun l hl => ?_)
    · simp (disch := omega) only [u2_r]; exact e1 x hx
    · rw [tk_s (by omega), List.mem_append, List.mem_singleton] at hl
      by_cases e : l = Ls.getD k 0
      · subst e; rw [u2_s]
      · rw [u2_m _ _ _ _ e]
        rcases hl with hl | hl
        · exact e2 l hl
        · exact absurd hl e
end TALLY
