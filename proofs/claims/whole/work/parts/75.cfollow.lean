/-! tables of answers; canFollow -/
theorem tof_e {c : Nat} (hc : c ≤ 8) : 512 / 2 ^ c = 2 * 2 ^ (8 - c) := by
  rw [show 512 = 2 ^ 9 from rfl, Nat.pow_div (by omega) (by omega), show 9 - c = (8 - c) + 1 by omega, Nat.pow_succ, Nat.mul_comm]
theorem tof_lt {c s : Nat} (hc : c ≤ 8) (hs : s < 2 ^ (8 - c)) : 512 - 512 / 2 ^ c + s < 512 := by
  have h1 : 2 ^ (8 - c) ≤ 2 ^ 8 := pow_le (by omega)
  rw [tof_e hc]
  omega
theorem tof_mono {c e : Nat} (h : c < e) (he : e ≤ 8) : 512 - 512 / 2 ^ c + 2 ^ (8 - c) ≤ 512 - 512 / 2 ^ e := by
  have h1 : 2 ^ (8 - c) ≤ 2 ^ 8 := pow_le (by omega)
  have h2 : 2 * 2 ^ (8 - e) ≤ 2 ^ (8 - c) := by
    rw [Nat.mul_comm, ← Nat.pow_succ]
    exact pow_le (by omega)
  rw [tof_e (show c ≤ 8 by omega), tof_e he]
  omega
theorem tof_inj {c e s u r q : Nat} (hc : c ≤ 8) (he : e ≤ 8) (hs : s < 2 ^ (8 - c)) (hu : u < 2 ^ (8 - e)) (h : r * 512 + (512 - 512 / 2 ^ c) + s = q * 512 + (512 - 512 / 2 ^ e) + u) : r = q ∧ c = e ∧ s = u := by
  have l1 := tof_lt hc hs
  have l2 := tof_lt he hu
  have hrq : r = q := by omega
  subst hrq
  rcases Nat.lt_trichotomy c e with hh | hh | hh
  · have := tof_mono hh he; omega
  · subst hh; exact ⟨rfl, rfl, by omega⟩
  · have := tof_mono hh hc; omega
def lvq (σ : ST) (Ls : List Nat) (j : Nat → Nat) (r c : Nat) : Prop := c = 0 ∨ oR σ (Ls.getD (c - 1) 0) (j (Ls.getD (c - 1) 0)) = r
def FT (σ : ST) (Ls : List Nat) (k : Nat) (j : Nat → Nat) (g : Nat → Nat → Int32) : Prop :=
  (∀ r, r < 6 → ∃ c, c ≤ k ∧ g 40 r = nI c ∧ lvq σ Ls j r c ∧ ∀ q, c ≤ q → q < k → oR σ (Ls.getD q 0) (j (Ls.getD q 0)) ≠ r) ∧
  ∀ r, r < 6 → ∀ c, c ≤ k → lvq σ Ls j r c → rdTb g σ Ls (inA Ls (2 ^ c - 1)) j r c
theorem inA_k {Ls : List Nat} {k l : Nat} : inA Ls (2 ^ k - 1) l ↔ ∃ q, q < k ∧ l = Ls.getD q 0 := by
  unfold inA
  constructor
  · rintro ⟨q, h1, h2⟩
    rw [Nat.testBit_two_pow_sub_one, decide_eq_true_eq] at h1
    exact ⟨q, h1, h2⟩
  · rintro ⟨q, h1, h2⟩
    exact ⟨q, by rw [Nat.testBit_two_pow_sub_one, decide_eq_true_eq]; exact h1, h2⟩
theorem inS_F {Ls : List Nat} {s l : Nat} : inS Ls s l ↔ inF Ls s 0 l := by
  unfold inS inF
  constructor
  · rintro ⟨p, h1, h2, h3⟩; exact ⟨p, by omega, h1, h2, h3⟩
  · rintro ⟨p, _, h1, h2, h3⟩; exact ⟨p, h1, h2, h3⟩
section CFO
variable {X : AX} {d : Nat} {Q : Option Value → AH → Prop} {g : Nat → Nat → Int32} {hj : Nat → Nat → Int64} {σ : ST} {Ls : List Nat} {s r k : Nat} {j : Nat → Nat}
theorem FT_cg {g2 : Nat → Nat → Int32} (h : FT σ Ls k j g) (e1 : g2 39 = g 39) (e2 : g2 40 = g 40) : FT σ Ls k j g2 := by
  unfold FT rdTb at h ⊢
  rw [e1, e2]
  exact h
theorem c_tableOf {c : Nat} (hr : r < 6) (e : g 40 r = nI c) (hc : c ≤ 8) : cwp X d m_Followers_tableOf [.ref 38, .int (nI r)] (HP g hj) Q = Q (some (.int (nI (r * 512 + (512 - 512 / 2 ^ c))))) (HP g hj) := by
  have h1 : 512 / 2 ^ c ≤ 512 := Nat.div_le_self _ _
  simp (disch := omega) only [e_Followers_tableOf, ↓s_Followers_tableOf_0, ↓s_Followers_tableOf_1, ↓s_Followers_tableOf_4, ↓s_Followers_tableOf_5, ↓s_Followers_tableOf_8, ↓s_Followers_tableOf_9, ↓s_Followers_tableOf_12, ↓s_Followers_tableOf_13, ↓s_Followers_tableOf_16, ↓s_Followers_tableOf_17, ↓s_Followers_tableOf_18, ↓s_Followers_tableOf_19, ↓s_Followers_tableOf_20, nI_leI, nI_ltI, nI_eq, N_z, nI_add, pk_sub, pk_mul, kL_i, kL_r, kL_d, kL_l, kL_k, kL_f, Option.toList_some, Option.toList_none, List.cons_append, List.nil_append, bI_z, N_and, N_or, N_shl, N_shr, Nat.one_mul, Nat.reduceAdd, lg_cmp_eq, L_and, L_or, bI_1, bI_0, if_true, if_false, reduceIte, N_m1x, ite_not, e]
  rw [show r * 512 + 512 - 512 / 2 ^ c = r * 512 + (512 - 512 / 2 ^ c) by omega]
theorem l_change {r c F : Nat} (hF : F + 2 ^ (8 - c) ≤ 3072) {g0 : Nat → Nat → Int32} (Kc : ∀ g', (∀ k, k ≠ 39 → g' k = g0 k) → (∀ x, x < 2 ^ (8 - c) → g' 39 (F + x) = nI 0) → (∀ i, i < F ∨ F + 2 ^ (8 - c) ≤ i → g' 39 i = g0 39 i) → Q none (HP g' hj)) :
    ∀ (m x : Nat) (g : Nat → Nat → Int32), x + m = 2 ^ (8 - c) → (∀ k, k ≠ 39 → g k = g0 k) → (∀ y, y < x → g 39 (F + y) = nI 0) → (∀ i, i < F ∨ F + 2 ^ (8 - c) ≤ i → g 39 i = g0 39 i) →
    wp X d m_Followers_change 26 [.ref 38, .int (nI r), .int (nI c), .int (nI F), .int (nI (F + 2 ^ (8 - c))), .int (nI (F + x))] [] (HP g hj) Q
  | 0, x, g, hx, e1, e2, e3 => by
    rw [s_Followers_change_26]
    simp (disch := omega) only [↓s_Followers_change_28, ↓s_Followers_change_30, ↓s_Followers_change_47, nI_leI, nI_ltI, nI_eq, N_z, nI_add, pk_sub, pk_mul, kL_i, kL_r, kL_d, kL_l, kL_k, kL_f, Option.toList_some, Option.toList_none, List.cons_append, List.nil_append, bI_z, N_and, N_or, N_shl, N_shr, Nat.one_mul, Nat.reduceAdd, lg_cmp_eq, L_and, L_or, bI_1, bI_0, if_true, if_false, reduceIte, N_m1x, ite_not]
    rw [if_pos (by omega)]
    exact Kc g e1 (fun y hy => e2 y (by omega)) e3
  | m + 1, x, g, hx, e1, e2, e3 => by
    rw [s_Followers_change_26]
    simp (disch := omega) only [↓s_Followers_change_28, ↓s_Followers_change_30, ↓s_Followers_change_33, ↓s_Followers_change_34, ↓s_Followers_change_37, ↓s_Followers_change_39, ↓s_Followers_change_40, ↓s_Followers_change_41, ↓s_Followers_change_44, nI_leI, nI_ltI, nI_eq, N_z, nI_add, pk_sub, pk_mul, kL_i, kL_r, kL_d, kL_l, kL_k, kL_f, Option.toList_some, Option.toList_none, List.cons_append, List.nil_append, bI_z, N_and, N_or, N_shl, N_shr, Nat.one_mul, Nat.reduceAdd, lg_cmp_eq, L_and, L_or, bI_1, bI_0, if_true, if_false, reduceIte, N_m1x, ite_not, Nat.add_assoc]
    rw [if_neg (by omega)]
    refine l_change hF Kc m (x + 1) _ (by omega) (fun k hk => ?_) (fun y hy => ?_) (fun i hi => ?_)
    · rw [u2_r _ _ _ hk]; exact e1 k hk
    · by_cases e : y = x
      · subst e; rw [u2_s]
      · rw [u2_m _ _ _ _ (by omega)]; exact e2 y (by omega)
    · rw [u2_m _ _ _ _ (by omega)]; exact e3 i hi
theorem c_change {c F : Nat} (hF : F = r * 512 + (512 - 512 / 2 ^ c)) (hr : r < 6) (hc : c ≤ 8) (Kc : ∀ g', (∀ k, k ≠ 39 → k ≠ 40 → g' k = g k) → g' 40 r = nI c → (∀ x, x ≠ r → g' 40 x = g 40 x) → (∀ x, x < 2 ^ (8 - c) → g' 39 (F + x) = nI 0) → (∀ i, i < F ∨ F + 2 ^ (8 - c) ≤ i → g' 39 i = g 39 i) → Q none (HP g' hj)) : cwp X (d + 1) m_Followers_change [.ref 38, .int (nI r), .int (nI c)] (HP g hj) Q := by
  have p1 : 1 ≤ 2 ^ (8 - c) := Nat.one_le_two_pow
  have h1 := tof_lt (c := c) (s := 2 ^ (8 - c) - 1) hc (by omega)
  have h2 : F + 2 ^ (8 - c) ≤ 3072 := by omega
  have hp : 2 ^ (8 - c) ≤ 2 ^ 8 := pow_le (by omega)
  have e40 : up2 g 40 r (nI c) 40 r = nI c := u2_s _ _ _ _
  have ht := fun Q' => c_tableOf (X := X) (d := d) (hj := hj) (Q := Q') hr e40 hc
  simp only [← hF] at ht
  clear hF h1
  simp (disch := omega) only [e_Followers_change, ↓s_Followers_change_0, ↓s_Followers_change_1, ↓s_Followers_change_4, ↓s_Followers_change_5, ↓s_Followers_change_6, ↓s_Followers_change_7, ↓s_Followers_change_8, ↓s_Followers_change_9, ↓s_Followers_change_12, ↓s_Followers_change_13, ↓s_Followers_change_14, ↓s_Followers_change_15, ↓s_Followers_change_17, ↓s_Followers_change_18, ↓s_Followers_change_19, ↓s_Followers_change_20, ↓s_Followers_change_21, ↓s_Followers_change_23, ↓s_Followers_change_24, nI_leI, nI_ltI, nI_eq, N_z, nI_add, pk_sub, pk_mul, kL_i, kL_r, kL_d, kL_l, kL_k, kL_f, Option.toList_some, Option.toList_none, List.cons_append, List.nil_append, bI_z, N_and, N_or, N_shl, N_shr, Nat.one_mul, Nat.reduceAdd, lg_cmp_eq, L_and, L_or, bI_1, bI_0, if_true, if_false, reduceIte, N_m1x, ite_not, ht]
  refine l_change (g0 := up2 g 40 r (nI c)) h2 (fun g' e1 e2 e3 => ?_) (2 ^ (8 - c)) 0 _ (by omega) (fun _ _ => rfl) (fun y hy => by omega) (fun _ _ => rfl)
  refine Kc g' (fun k k1 k2 => by rw [e1 k k1, u2_r _ _ _ k2]) (by rw [e1 40 (by omega), u2_s]) (fun x hx => by rw [e1 40 (by omega), u2_m _ _ _ _ hx]) e2 (fun i hi => by rw [e3 i hi, u2_n _ _ _ _ (by omega)])
/-- a set of places that are not led yet -/
def inK (Ls : List Nat) (k s : Nat) : Prop := s < 2 ^ Ls.length ∧ ∀ p, s.testBit p = true → k ≤ p
theorem CTP_lev {c : Nat} {S : Nat → Prop} (hck : c ≤ k) (hq : ∀ q, c ≤ q → q < k → oR σ (Ls.getD q 0) (j (Ls.getD q 0)) ≠ r) : CTP σ (inA Ls (2 ^ c - 1)) S j r ↔ CTP σ (inA Ls (2 ^ k - 1)) S j r := by
  refine CTP_cg (fun l => ?_) (fun _ _ _ => rfl) (fun _ => Iff.rfl)
  constructor
  · rintro ⟨h1, h2⟩
    obtain ⟨q, q1, q2⟩ := inA_k.mp h1
    exact ⟨inA_k.mpr ⟨q, by omega, q2⟩, h2⟩
  · rintro ⟨h1, h2⟩
    obtain ⟨q, q1, q2⟩ := inA_k.mp h1
    refine ⟨inA_k.mpr ⟨q, ?_, q2⟩, h2⟩
    by_cases hlt : q < c
    · exact hlt
    · subst q2
      exact absurd h2 (hq q (by omega) q1)
theorem sh_eq {x c : Nat} (h : ∀ p, x.testBit p = true → c ≤ p) : x / 2 ^ c * 2 ^ c = x := by
  apply Nat.eq_of_testBit_eq
  intro i
  rw [open_tb]
  by_cases hb : x.testBit i = true
  · simp [h i hb, hb]
  · have : x.testBit i = false := by simpa using hb
    simp [this]
theorem FT_wr {c x v : Nat} {g2 : Nat → Nat → Int32} (h : FT σ Ls k j g) (hk : k ≤ 8) (hr : r < 6) (hc : c ≤ k) (hx : x < 2 ^ (8 - c)) (e1 : g2 40 = g 40) (e2 : g2 39 = up2 g 39 (r * 512 + (512 - 512 / 2 ^ c) + x) (nI v) 39) (hv : (v = 1 ∧ CTP σ (inA Ls (2 ^ c - 1)) (inS Ls (x * 2 ^ c)) j r) ∨ (v = 2 ∧ ¬ CTP σ (inA Ls (2 ^ c - 1)) (inS Ls (x * 2 ^ c)) j r)) : FT σ Ls k j g2 := by
  refine ⟨by rw [e1]; exact h.1, fun q hq e he hl y hy => ?_⟩
  have old := h.2 q hq e he hl y hy
  rw [e2]
  by_cases ei : q * 512 + (512 - 512 / 2 ^ e) + y = r * 512 + (512 - 512 / 2 ^ c) + x
  · obtain ⟨z1, z2, z3⟩ := tof_inj (by omega) (by omega) hy hx ei
    subst z1; subst z2; subst z3
    rw [u2_s]
    rcases hv with ⟨rfl, hv⟩ | ⟨rfl, hv⟩
    · exact Or.inr (Or.inl ⟨rfl, hv⟩)
    · exact Or.inr (Or.inr ⟨rfl, hv⟩)
  · rw [u2_m _ _ _ _ ei]
    exact old
theorem c_canFollow (hs : inK Ls k s) (hk : k ≤ Ls.length) : ∀ (m f : Nat) (tk : Nat → Nat) (g : Nat → Nat → Int32) (d : Nat) (Q : Option Value → AH → Prop), Ls.length ≤ f + m → f ≤ Ls.length → CP σ Ls g hj → GI σ Ls (2 ^ k - 1) j g → FT σ Ls k j g → (∀ r, r < 6 → g 41 r = nI (tk r) ∧ inK Ls k (tk r) ∧ CTP σ (inA Ls (2 ^ k - 1)) (inF Ls (tk r) 0) j r) →
    (∀ g', (∀ i, i < 33 ∨ i = 38 ∨ i = 40 ∨ 42 ≤ i → g' i = g i) → GI σ Ls (2 ^ k - 1) j g' → FT σ Ls k j g' → (∀ r, r < 6 → g' 41 r = nI (tk r)) → Q (some (.int (bI (cl (CFl σ Ls (inA Ls (2 ^ k - 1)) j tk s f) = true)))) (HP g' hj)) →
    cwp X (d + m + 11) m_Followers_canFollow [.ref 38, .int (nI s), .int (nI f)] (HP g hj) Q := by
  intro m
  induction m with
  | zero =>
    intro f tk g d Q hm hf c gi ft ht Kc
    have hn := c.2.1
    have s16 : s < 65536 := Nat.lt_of_lt_of_le hs.1 (pow_le (show Ls.length ≤ 16 by omega))
    have e0 := c.1.1
    obtain ⟨n1, n2, n3, n4⟩ := nx_ok s (Ls.length - f) f
    simp (disch := omega) only [e_Followers_canFollow, ↓s_Followers_canFollow_0, ↓s_Followers_canFollow_1, ↓s_Followers_canFollow_2, ↓s_Followers_canFollow_3, ↓s_Followers_canFollow_6, ↓s_Followers_canFollow_7, ↓s_Followers_canFollow_8, ↓s_Followers_canFollow_9, ↓s_Followers_canFollow_12, ↓s_Followers_canFollow_15, ↓s_Followers_canFollow_18, ↓s_Followers_canFollow_19_0, ↓s_Followers_canFollow_19_1, ↓s_Followers_canFollow_19_b, c_nextOf e0 hn s16 hf, nI_leI, nI_ltI, nI_eq, N_z, nI_add, pk_sub, pk_mul, kL_i, kL_r, kL_d, kL_l, kL_k, kL_f, Option.toList_some, Option.toList_none, List.cons_append, List.nil_append, bI_z, N_and, N_or, N_shl, N_shr, Nat.one_mul, Nat.reduceAdd, lg_cmp_eq, L_and, L_or, bI_1, bI_0, if_true, if_false, reduceIte, N_m1x, ite_not, e0]
    rw [if_neg (by omega)]
    have := Kc g (fun _ _ => rfl) gi ft (fun r hr => (ht r hr).1)
    rw [bI_t (cl_t.mpr (CFl_0 (fun r hr => (ht r hr).2.2) (fun p p1 p2 => by omega)))] at this
    exact this
  | succ m ih =>
    intro f tk g d Q hm hf c gi ft ht Kc
    have hn := c.2.1
    have s16 : s < 65536 := Nat.lt_of_lt_of_le hs.1 (pow_le (show Ls.length ≤ 16 by omega))
    have e0 := c.1.1
    obtain ⟨n1, n2, n3, n4⟩ := nx_ok s (Ls.length - f) f
    rw [show d + (m + 1) + 11 = d + m + 11 + 1 by omega]
    simp (disch := omega) only [e_Followers_canFollow, ↓s_Followers_canFollow_0, ↓s_Followers_canFollow_1, ↓s_Followers_canFollow_2, ↓s_Followers_canFollow_3, ↓s_Followers_canFollow_6, ↓s_Followers_canFollow_7, ↓s_Followers_canFollow_8, ↓s_Followers_canFollow_9, ↓s_Followers_canFollow_12, ↓s_Followers_canFollow_15, ↓s_Followers_canFollow_18, ↓s_Followers_canFollow_19_0, ↓s_Followers_canFollow_19_1, ↓s_Followers_canFollow_19_b, c_nextOf e0 hn s16 hf, nI_leI, nI_ltI, nI_eq, N_z, nI_add, pk_sub, pk_mul, kL_i, kL_r, kL_d, kL_l, kL_k, kL_f, Option.toList_some, Option.toList_none, List.cons_append, List.nil_append, bI_z, N_and, N_or, N_shl, N_shr, Nat.one_mul, Nat.reduceAdd, lg_cmp_eq, L_and, L_or, bI_1, bI_0, if_true, if_false, reduceIte, N_m1x, ite_not, e0]
    generalize hPx : nx s (Ls.length - f) f = P at *
    by_cases hP : P < Ls.length
    case neg =>
      rw [if_neg hP]
      have := Kc g (fun _ _ => rfl) gi ft (fun r hr => (ht r hr).1)
      rw [bI_t (cl_t.mpr (CFl_0 (fun r hr => (ht r hr).2.2) (fun p p1 p2 => n3 p p1 (by omega))))] at this
      exact this
    rw [if_pos hP]
    have hsP := n4 (by omega)
    have hkP := hs.2 P hsP
    have stp := CFl_step (σ := σ) (A := inA Ls (2 ^ k - 1)) (j := j) (tk := tk) n1 hP hsP n3
    simp (disch := omega) only [↓s_Followers_canFollow_20, ↓s_Followers_canFollow_21, nI_leI, nI_ltI, nI_eq, N_z, nI_add, pk_sub, pk_mul, kL_i, kL_r, kL_d, kL_l, kL_k, kL_f, Option.toList_some, Option.toList_none, List.cons_append, List.nil_append, bI_z, N_and, N_or, N_shl, N_shr, Nat.one_mul, Nat.reduceAdd, lg_cmp_eq, L_and, L_or, bI_1, bI_0, if_true, if_false, reduceIte, N_m1x, ite_not]
    have loop : ∀ (n r : Nat) (g1 : Nat → Nat → Int32) (v5 v6 v7 v8 : Value), r + n = 6 → (∀ i, i < 33 ∨ i = 38 ∨ i = 40 ∨ 42 ≤ i → g1 i = g i) → GI σ Ls (2 ^ k - 1) j g1 → FT σ Ls k j g1 → (∀ r, r < 6 → g1 41 r = nI (tk r)) → (∀ x, x < r → ¬ (CTP σ (inA Ls (2 ^ k - 1)) (inF Ls (tk x ||| 2 ^ P) 0) j x ∧ CFl σ Ls (inA Ls (2 ^ k - 1)) j (pu tk x (tk x ||| 2 ^ P)) s (P + 1))) →
        wp X (d + m + 11 + 1) m_Followers_canFollow 23 [.ref 38, .int (nI s), .int (nI f), .int (nI P), .int (nI r), v5, v6, v7, v8] [] (HP g1 hj) Q := by
      intro n
      induction n with
      | zero =>
        intro r g1 v5 v6 v7 v8 hr f1 gi1 ft1 t1 hno
        have r6 : r = 6 := by omega
        subst r6
        rw [s_Followers_canFollow_23]
        simp (disch := omega) only [↓s_Followers_canFollow_25, ↓s_Followers_canFollow_27, ↓s_Followers_canFollow_152, ↓s_Followers_canFollow_153_0, ↓s_Followers_canFollow_153_1, ↓s_Followers_canFollow_153_b, nI_leI, nI_ltI, nI_eq, N_z, nI_add, pk_sub, pk_mul, kL_i, kL_r, kL_d, kL_l, kL_k, kL_f, Option.toList_some, Option.toList_none, List.cons_append, List.nil_append, bI_z, N_and, N_or, N_shl, N_shr, Nat.one_mul, Nat.reduceAdd, lg_cmp_eq, L_and, L_or, bI_1, bI_0, if_true, if_false, reduceIte, N_m1x, ite_not, Nat.le_refl]
        have := Kc g1 f1 gi1 ft1 t1
        rw [bI_f (fun z => ?_)] at this
        · exact this
        · obtain ⟨x, x1, x2, x3⟩ := stp.mp (cl_t.mp z)
          exact hno x x1 ⟨x2, x3⟩
      | succ n ihn =>
        intro r g1 v5 v6 v7 v8 hr f1 gi1 ft1 t1 hno
        have hr6 : r < 6 := by omega
        have c1 := CP_cg c (g2 := g1) (fun i _ _ => f1 i (by omega))
        obtain ⟨cc, cc1, cc2, cc3, cc4⟩ := ft1.1 r hr6
        obtain ⟨_, tk1, tk2⟩ := ht r hr6
        have e41 := t1 r hr6
        generalize hW : tk r ||| 2 ^ P = W at *
        have WtbT : ∀ p, W.testBit p = true ↔ ((tk r).testBit p = true ∨ P = p) := by
          intro p; rw [← hW, or_tb, Bool.or_eq_true, decide_eq_true_eq]
        have Wk : ∀ p, W.testBit p = true → k ≤ p := by
          intro p hp
          rcases (WtbT p).mp hp with h | h
          · exact tk1.2 p h
          · omega
        have Wlt : W < 2 ^ Ls.length := by rw [← hW]; exact Nat.or_lt_two_pow tk1.1 (Nat.pow_lt_pow_right (by omega) hP)
        have W8 : W < 2 ^ 8 := Nat.lt_of_lt_of_le Wlt (pow_le hn)
        have tkl : tk r < 2 ^ 8 := Nat.lt_of_lt_of_le tk1.1 (pow_le hn)
        have Wd : W / 2 ^ cc < 2 ^ (8 - cc) := by
          rw [Nat.div_lt_iff_lt_mul (Nat.two_pow_pos cc), ← Nat.pow_add, show 8 - cc + cc = 8 by omega]
          exact W8
        have Ws_ : W / 2 ^ cc * 2 ^ cc = W := sh_eq (fun p hp => by have := Wk p hp; omega)
        have tl := tof_lt (show cc ≤ 8 by omega) Wd
        have lev := CTP_lev (σ := σ) (Ls := Ls) (j := j) (r := r) (S := inS Ls W) cc1 cc4
        have lev2 : CTP σ (inA Ls (2 ^ k - 1)) (inS Ls W) j r ↔ CTP σ (inA Ls (2 ^ k - 1)) (inF Ls W 0) j r := CTP_cg (fun _ => Iff.rfl) (fun _ _ _ => rfl) (fun l => inS_F)
        have ent := ft1.2 r hr6 cc cc1 cc3 (W / 2 ^ cc) Wd
        rw [Ws_] at ent
        generalize hE : r * 512 + (512 - 512 / 2 ^ cc) + W / 2 ^ cc = E at *
        rw [s_Followers_canFollow_23]
        simp (disch := omega) only [↓s_Followers_canFollow_25, ↓s_Followers_canFollow_27, ↓s_Followers_canFollow_30, ↓s_Followers_canFollow_31, ↓s_Followers_canFollow_34, ↓s_Followers_canFollow_36, ↓s_Followers_canFollow_37, ↓s_Followers_canFollow_39, ↓s_Followers_canFollow_41, ↓s_Followers_canFollow_42, ↓s_Followers_canFollow_43, ↓s_Followers_canFollow_44, ↓s_Followers_canFollow_45, ↓s_Followers_canFollow_47, ↓s_Followers_canFollow_48, ↓s_Followers_canFollow_50, ↓s_Followers_canFollow_53, ↓s_Followers_canFollow_55, ↓s_Followers_canFollow_56, ↓s_Followers_canFollow_59, ↓s_Followers_canFollow_61, ↓s_Followers_canFollow_62, ↓s_Followers_canFollow_63, ↓s_Followers_canFollow_64, ↓s_Followers_canFollow_66, ↓s_Followers_canFollow_67, ↓s_Followers_canFollow_70, ↓s_Followers_canFollow_72, nI_leI, nI_ltI, nI_eq, N_z, nI_add, pk_sub, pk_mul, kL_i, kL_r, kL_d, kL_l, kL_k, kL_f, Option.toList_some, Option.toList_none, List.cons_append, List.nil_append, bI_z, N_and, N_or, N_shl, N_shr, Nat.one_mul, Nat.reduceAdd, lg_cmp_eq, L_and, L_or, bI_1, bI_0, if_true, if_false, reduceIte, N_m1x, ite_not, e41, hW, c_tableOf hr6 cc2 (show cc ≤ 8 by omega), cc2, hE]
        rw [if_neg (by omega)]
        -- from the answer on
        have ans : ∀ (g2 : Nat → Nat → Int32) (v5 v8 : Value), (∀ i, i < 33 ∨ i = 38 ∨ i = 40 ∨ 42 ≤ i → g2 i = g i) → GI σ Ls (2 ^ k - 1) j g2 → FT σ Ls k j g2 → (∀ r, r < 6 → g2 41 r = nI (tk r)) → ((g2 39 E = nI 1 ∧ CTP σ (inA Ls (2 ^ k - 1)) (inF Ls W 0) j r) ∨ (g2 39 E = nI 2 ∧ ¬ CTP σ (inA Ls (2 ^ k - 1)) (inF Ls W 0) j r)) →
            wp X (d + m + 11 + 1) m_Followers_canFollow 100 [.ref 38, .int (nI s), .int (nI f), .int (nI P), .int (nI r), .int (nI (tk r)), .int (nI W), .int (nI E), v8] [] (HP g2 hj) Q := by
          intro g2 v5 v8 f2 gi2 ft2 t2 hv
          have c2 := CP_cg c (g2 := g2) (fun i _ _ => f2 i (by omega))
          rcases hv with ⟨hv, hct⟩ | ⟨hv, hct⟩
          · simp (disch := omega) only [↓s_Followers_canFollow_100, ↓s_Followers_canFollow_101, ↓s_Followers_canFollow_104, ↓s_Followers_canFollow_106, ↓s_Followers_canFollow_107, ↓s_Followers_canFollow_108, ↓s_Followers_canFollow_111, ↓s_Followers_canFollow_112, ↓s_Followers_canFollow_115, ↓s_Followers_canFollow_117, ↓s_Followers_canFollow_119, ↓s_Followers_canFollow_120, ↓s_Followers_canFollow_121, ↓s_Followers_canFollow_122, ↓s_Followers_canFollow_123, ↓s_Followers_canFollow_124, ↓s_Followers_canFollow_125, nI_leI, nI_ltI, nI_eq, N_z, nI_add, pk_sub, pk_mul, kL_i, kL_r, kL_d, kL_l, kL_k, kL_f, Option.toList_some, Option.toList_none, List.cons_append, List.nil_append, bI_z, N_and, N_or, N_shl, N_shr, Nat.one_mul, Nat.reduceAdd, lg_cmp_eq, L_and, L_or, bI_1, bI_0, if_true, if_false, reduceIte, N_m1x, ite_not, hv]
            have gi3 : GI σ Ls (2 ^ k - 1) j (up2 g2 41 r (nI W)) := by
              unfold GI at gi2 ⊢
              rw [u2_r _ _ _ (by omega), u2_r _ _ _ (by omega), u2_r _ _ _ (by omega), u2_r _ _ _ (by omega)]
              exact gi2
            refine ih (P + 1) (pu tk r W) (up2 g2 41 r (nI W)) d _ (by omega) (by omega) (CP_cg c2 (fun i _ _ => u2_r _ _ _ (by omega))) gi3 (FT_cg ft2 (u2_r _ _ _ (by omega)) (u2_r _ _ _ (by omega))) (fun q hq => ?_) (fun g4 f4 gi4 ft4 t4 => ?_)
            · by_cases e : q = r
              · subst e
                rw [u2_s, pu_s]
                exact ⟨rfl, ⟨Wlt, Wk⟩, hct⟩
              · rw [u2_m _ _ _ _ e, pu_n _ e]
                exact ⟨t2 q hq, (ht q hq).2⟩
            · have f5 : ∀ i, i < 33 ∨ i = 38 ∨ i = 40 ∨ 42 ≤ i → up2 g4 41 r (nI (tk r)) i = g i := fun i hi => by rw [u2_r _ _ _ (by omega), f4 i hi, u2_r _ _ _ (by omega), f2 i hi]
              have gi5 : GI σ Ls (2 ^ k - 1) j (up2 g4 41 r (nI (tk r))) := by
                unfold GI at gi4 ⊢
                rw [u2_r _ _ _ (by omega), u2_r _ _ _ (by omega), u2_r _ _ _ (by omega), u2_r _ _ _ (by omega)]
                exact gi4
              have ft5 := FT_cg ft4 (g2 := up2 g4 41 r (nI (tk r))) (u2_r _ _ _ (by omega)) (u2_r _ _ _ (by omega))
              have t5 : ∀ q, q < 6 → up2 g4 41 r (nI (tk r)) 41 q = nI (tk q) := by
                intro q hq
                by_cases e : q = r
                · subst e; rw [u2_s]
                · rw [u2_m _ _ _ _ e, t4 q hq, pu_n _ e]
              simp (disch := omega) only [↓s_Followers_canFollow_128, ↓s_Followers_canFollow_130, ↓s_Followers_canFollow_131, ↓s_Followers_canFollow_134, ↓s_Followers_canFollow_136, ↓s_Followers_canFollow_138, ↓s_Followers_canFollow_139, ↓s_Followers_canFollow_141, ↓s_Followers_canFollow_144, ↓s_Followers_canFollow_145_0, ↓s_Followers_canFollow_145_1, ↓s_Followers_canFollow_145_b, nI_leI, nI_ltI, nI_eq, N_z, nI_add, pk_sub, pk_mul, kL_i, kL_r, kL_d, kL_l, kL_k, kL_f, Option.toList_some, Option.toList_none, List.cons_append, List.nil_append, bI_z, N_and, N_or, N_shl, N_shr, Nat.one_mul, Nat.reduceAdd, lg_cmp_eq, L_and, L_or, bI_1, bI_0, if_true, if_false, reduceIte, N_m1x, ite_not]
              by_cases hcf : cl (CFl σ Ls (inA Ls (2 ^ k - 1)) j (pu tk r W) s (P + 1)) = true
              · rw [if_pos hcf]
                have := Kc _ f5 gi5 ft5 t5
                rw [bI_t (cl_t.mpr (stp.mpr ⟨r, hr6, by rw [hW]; exact hct, by rw [hW]; exact cl_t.mp hcf⟩))] at this
                exact this
              · rw [if_neg hcf]
                simp (disch := omega) only [↓s_Followers_canFollow_146, ↓s_Followers_canFollow_149, nI_leI, nI_ltI, nI_eq, N_z, nI_add, pk_sub, pk_mul, kL_i, kL_r, kL_d, kL_l, kL_k, kL_f, Option.toList_some, Option.toList_none, List.cons_append, List.nil_append, bI_z, N_and, N_or, N_shl, N_shr, Nat.one_mul, Nat.reduceAdd, lg_cmp_eq, L_and, L_or, bI_1, bI_0, if_true, if_false, reduceIte, N_m1x, ite_not]
                refine ihn (r + 1) _ _ _ _ _ (by omega) f5 gi5 ft5 t5 (fun x hx => ?_)
                by_cases e : x = r
                · subst e; rw [hW]; exact fun z => hcf (cl_t.mpr z.2)
                · exact hno x (by omega)
          · have z21 : ¬ nI 2 = nI 1 := by decide
            simp (disch := omega) only [↓s_Followers_canFollow_100, ↓s_Followers_canFollow_101, ↓s_Followers_canFollow_104, ↓s_Followers_canFollow_106, ↓s_Followers_canFollow_107, ↓s_Followers_canFollow_108, hv, z21, ite_not, if_false]
            simp (disch := omega) only [↓s_Followers_canFollow_146, ↓s_Followers_canFollow_149, nI_leI, nI_ltI, nI_eq, N_z, nI_add, pk_sub, pk_mul, kL_i, kL_r, kL_d, kL_l, kL_k, kL_f, Option.toList_some, Option.toList_none, List.cons_append, List.nil_append, bI_z, N_and, N_or, N_shl, N_shr, Nat.one_mul, Nat.reduceAdd, lg_cmp_eq, L_and, L_or, bI_1, bI_0, if_true, if_false, reduceIte, N_m1x, ite_not]
            refine ihn (r + 1) _ _ _ _ _ (by omega) f2 gi2 ft2 t2 (fun x hx => ?_)
            by_cases e : x = r
            · subst e; rw [hW]; exact fun z => hct z.1
            · exact hno x (by omega)
        rcases ent with hz | hv
        · simp (disch := omega) only [hz, nI_leI, nI_ltI, nI_eq, N_z, nI_add, pk_sub, pk_mul, kL_i, kL_r, kL_d, kL_l, kL_k, kL_f, Option.toList_some, Option.toList_none, List.cons_append, List.nil_append, bI_z, N_and, N_or, N_shl, N_shr, Nat.one_mul, Nat.reduceAdd, lg_cmp_eq, L_and, L_or, bI_1, bI_0, if_true, if_false, reduceIte, N_m1x, ite_not, Nat.one_ne_zero, Nat.zero_ne_one, eq_self, not_true_eq_false, not_false_eq_true, ↓s_Followers_canFollow_73, ↓s_Followers_canFollow_76, ↓s_Followers_canFollow_77, ↓s_Followers_canFollow_80, ↓s_Followers_canFollow_82, ↓s_Followers_canFollow_83, ↓s_Followers_canFollow_85, ↓s_Followers_canFollow_87, ↓s_Followers_canFollow_88]
          have hag : AGM σ Ls j (2 ^ k - 1) r := CTP_A tk2
          have := c_canBeTurned (X := X) (σ := σ) (Ls := Ls) (hj := hj) Wlt hr6 8 0 (2 ^ k - 1) j g1 (d + m + 1) (Q := fun r_ h' => wp X (d + m + 11 + 1) 110 91 [.ref 38, .int (nI s), .int (nI f), .int (nI P), .int (nI r), .int (nI (tk r)), .int (nI W), .int (nI E), v8] (r_.toList ++ [.int (nI E), .ref 39]) h' Q) (by omega) (by omega) c1 gi1 (fun p p1 p2 => ?_) hag (fun g2 f2 gi2 => ?_)
          · exact this
          · have := Wk p p2
            rw [Nat.testBit_two_pow_sub_one]
            simp
            omega
          · have fr : ∀ v, ∀ i, i < 33 ∨ i = 38 ∨ i = 40 ∨ 42 ≤ i → up2 g2 39 E (nI v) i = g i := fun v i hi => by rw [u2_r _ _ _ (by omega), f2 i (by omega), f1 i hi]
            have gi3 : ∀ v, GI σ Ls (2 ^ k - 1) j (up2 g2 39 E (nI v)) := by
              intro v
              unfold GI at gi2 ⊢
              rw [u2_r _ _ _ (by omega), u2_r _ _ _ (by omega), u2_r _ _ _ (by omega), u2_r _ _ _ (by omega)]
              exact gi2
            have ft2 : FT σ Ls k j g2 := FT_cg ft1 (f2 39 (by omega)) (f2 40 (by omega))
            have t2 : ∀ v q, q < 6 → up2 g2 39 E (nI v) 41 q = nI (tk q) := fun v q hq => by rw [u2_r _ _ _ (by omega), f2 41 (by omega)]; exact t1 q hq
            simp (disch := omega) only [↓s_Followers_canFollow_91, ↓s_Followers_canFollow_94, ↓s_Followers_canFollow_95, ↓s_Followers_canFollow_98, ↓s_Followers_canFollow_99, nI_leI, nI_ltI, nI_eq, N_z, nI_add, pk_sub, pk_mul, kL_i, kL_r, kL_d, kL_l, kL_k, kL_f, Option.toList_some, Option.toList_none, List.cons_append, List.nil_append, bI_z, N_and, N_or, N_shl, N_shr, Nat.one_mul, Nat.reduceAdd, lg_cmp_eq, L_and, L_or, bI_1, bI_0, if_true, if_false, reduceIte, N_m1x, ite_not]
            by_cases hct : cl (CTF σ Ls (2 ^ k - 1) W 0 j r) = true
            · rw [if_pos hct]
              have hc2 := cl_t.mp hct
              refine ans _ DUM _ (fr 1) (gi3 1) (FT_wr (c := cc) (x := W / 2 ^ cc) (v := 1) (r := r) ft2 (by omega) hr6 cc1 Wd (u2_r _ _ _ (by omega)) (by rw [hE]) (Or.inl ⟨rfl, by rw [Ws_]; exact lev.mpr (lev2.mpr hc2)⟩)) (t2 1) (Or.inl ⟨u2_s _ _ _ _, hc2⟩)
            · rw [if_neg hct]
              have hc2 : ¬ CTP σ (inA Ls (2 ^ k - 1)) (inF Ls W 0) j r := fun z => hct (cl_t.mpr z)
              refine ans _ DUM _ (fr 2) (gi3 2) (FT_wr (c := cc) (x := W / 2 ^ cc) (v := 2) (r := r) ft2 (by omega) hr6 cc1 Wd (u2_r _ _ _ (by omega)) (by rw [hE]) (Or.inr ⟨rfl, by rw [Ws_]; exact fun z => hc2 (lev2.mp (lev.mp z))⟩)) (t2 2) (Or.inr ⟨u2_s _ _ _ _, hc2⟩)
        · rcases hv with ⟨hv, hct⟩ | ⟨hv, hct⟩
          · simp (disch := omega) only [hv, ↓s_Followers_canFollow_73, nI_leI, nI_ltI, nI_eq, N_z, nI_add, pk_sub, pk_mul, kL_i, kL_r, kL_d, kL_l, kL_k, kL_f, Option.toList_some, Option.toList_none, List.cons_append, List.nil_append, bI_z, N_and, N_or, N_shl, N_shr, Nat.one_mul, Nat.reduceAdd, lg_cmp_eq, L_and, L_or, bI_1, bI_0, if_true, if_false, reduceIte, N_m1x, ite_not, Nat.one_ne_zero, Nat.zero_ne_one, eq_self, not_true_eq_false, not_false_eq_true]
            exact ans g1 DUM _ f1 gi1 ft1 t1 (Or.inl ⟨hv, lev2.mp (lev.mp hct)⟩)
          · have z20 : ¬ nI 2 = 0 := by decide
            simp (disch := omega) only [hv, ↓s_Followers_canFollow_73, z20, ite_not, if_false]
            exact ans g1 DUM _ f1 gi1 ft1 t1 (Or.inr ⟨hv, fun z => hct (lev.mpr (lev2.mpr z))⟩)
    exact loop 6 0 g _ _ _ _ rfl (fun _ _ => rfl) gi ft (fun r hr => (ht r hr).1) (fun x hx => by omega)
end CFO
