/-! the abstract state, and what is read of rings and of those who held them -/
abbrev ST := Nat → Nat → Nat
def oI (n : Nat) : Int32 := if n = 0 then -1 else nI (n - 1)
theorem oI_0 : oI 0 = -1 := rfl
theorem oI_s (n : Nat) : oI (n + 1) = nI n := rfl
theorem nI_ne1 {n : Nat} (h : n < 4294967295) : (nI n = -1) = False := by
  rw [N_m1]
  apply propext
  rw [N_inj (by omega) (by omega)]
  constructor
  · intro h; omega
  · intro h; exact h.elim
theorem oI_m1 {n : Nat} (h : n < 4294967295) : (oI n = -1) = (n = 0) := by
  unfold oI
  by_cases h0 : n = 0
  · simp [h0]
  · rw [if_neg h0, nI_ne1 (by omega)]
    simp [h0]
theorem oI_eq {n m : Nat} (h : n < 2147483648) (h2 : m < 2147483648) : (oI n = nI m) = (n = m + 1) := by
  unfold oI
  apply propext
  by_cases h0 : n = 0
  · rw [if_pos h0]
    constructor
    · intro z
      have hz := nI_ne1 (n := m) (by omega)
      exact (hz.mp z.symm).elim
    · intro z; omega
  · rw [if_neg h0, nI_eq (by omega) (by omega)]
    omega
def WF (σ : ST) : Prop :=
  (σ 0 0 ≤ 40 ∧ ∀ i, σ 1 i < 256) ∧ (σ 2 0 ≤ 6 ∧ ∀ r, r < σ 2 0 → σ 3 r < 65536 ∧ σ 4 r ≤ r ∧ σ 5 r ≤ 60 ∧ (σ 4 r = 0 ↔ σ 5 r = 0)) ∧
  (σ 6 0 ≤ 12 ∧ ∀ h, h < σ 6 0 → σ 7 h < σ 2 0 ∧ σ 8 h < 8 ∧ σ 9 h ≤ σ 10 h ∧ σ 10 h < 60) ∧
  (σ 11 0 ≤ 12 ∧ ∀ l, l < σ 11 0 → σ 12 l < 65536 ∧ σ 13 l < 65536 ∧ σ 12 l &&& σ 13 l = 0 ∧ σ 14 l ≤ σ 15 l ∧ σ 15 l < 60 ∧ σ 16 l < 4 ∧ σ 17 l < 4) ∧
  σ 18 0 < 2 ^ σ 11 0 ∧ ((∀ s, s < 4 → σ 19 s ≤ 1 ∧ σ 20 s < 3 ∧ σ 21 s ≤ 48) ∧ ∀ i, σ 22 i < 4294967296) ∧ σ 23 0 ≤ 5
def spn (f t : Nat) : Nat := (2 ^ (t + 1 - f) - 1) * 2 ^ f
def rdR (g : Nat → Nat → Int32) (ko jo kp kd kc : Nat) (σ : ST) : Prop := g ko jo = nI (σ 2 0) ∧ ∀ r, r < σ 2 0 → g kp r = nI (σ 3 r) ∧ g kd r = oI (σ 4 r) ∧ g kc r = oI (σ 5 r)
def rdHc (g : Nat → Nat → Int32) (hj : Nat → Nat → Int64) (σ : ST) : Prop := g 3 7 = nI (σ 6 0) ∧ ∀ h, h < σ 6 0 → g 7 h = nI (σ 7 h) ∧ g 8 h = nI (σ 8 h) ∧ hj 9 h = lN (spn (σ 9 h) (σ 10 h))
def rdHm (g : Nat → Nat → Int32) (σ : ST) : Prop := g 51 8 = nI (σ 6 0) ∧ ∀ h, h < σ 6 0 → g 56 h = nI (σ 7 h) ∧ g 57 h = nI (σ 8 h) ∧ g 58 h = nI (σ 9 h) ∧ g 59 h = nI (σ 10 h)
/-- the first of the n numbers from i on with p, and one; 0: none -/
def fst1 (p : Nat → Bool) : Nat → Nat → Nat
  | 0, _ => 0
  | n + 1, i => if p i = true then i + 1 else fst1 p n (i + 1)
def cnt1 (p : Nat → Bool) : Nat → Nat
  | 0 => 0
  | n + 1 => cnt1 p n + (if p n = true then 1 else 0)
theorem cnt1_le (p : Nat → Bool) : ∀ n, cnt1 p n ≤ n
  | 0 => Nat.le_refl 0
  | n + 1 => by
    have := cnt1_le p n
    unfold cnt1
    split <;> omega
def nwr (σ : ST) (x : Nat) : Nat := fst1 (fun r => decide (σ 4 r = x + 1)) (σ 2 0) 0
theorem fst1_le (p : Nat → Bool) : ∀ n i, fst1 p n i ≤ i + n
  | 0, i => Nat.zero_le _
  | n + 1, i => by
    have := fst1_le p n (i + 1)
    unfold fst1
    split <;> omega
theorem fst1_p (p : Nat → Bool) : ∀ n i, fst1 p n i ≠ 0 → p (fst1 p n i - 1) = true
  | 0, i, h => absurd rfl h
  | n + 1, i, h => by
    unfold fst1 at h ⊢
    by_cases hp : p i = true
    · simp only [hp, if_true]; exact hp
    · simp only [hp] at h ⊢
      exact fst1_p p n (i + 1) h
def hmy (σ : ST) (x : Nat) : Nat := cnt1 (fun h => decide (σ 7 h = x)) (σ 6 0)
def stn (σ : ST) : Nat → Nat → Nat
  | 0, r => r
  | n + 1, r => if σ 4 r = 0 then r else stn σ n (σ 4 r - 1)
def stone (σ : ST) (r : Nat) : Nat := stn σ 6 r
section RINGS
variable {X : AX} {d : Nat} {Q : Option Value → AH → Prop} {g : Nat → Nat → Int32} {hj : Nat → Nat → Int64} {σ : ST} {h : AH}
theorem l_Rings_newerThan {x : Nat} (w : WF σ) (hr : rdR g 3 3 4 5 6 σ) (hx : x < 100) : ∀ (n i : Nat), i + n = σ 2 0 → wp X d m_Rings_newerThan 2 [.ref 3, .int (nI x), .int (nI i)] [] (HP g hj) Q = Q (some (.int (oI (fst1 (fun r => decide (σ 4 r = x + 1)) n i)))) (HP g hj)
  | 0, i, hi => by
    have w2 := w.2.1.1
    have h1 := hr.1
    rw [s_Rings_newerThan_2]
    simp (disch := omega) only [↓s_Rings_newerThan_0, ↓s_Rings_newerThan_1, ↓s_Rings_newerThan_3, ↓s_Rings_newerThan_4, ↓s_Rings_newerThan_7, ↓s_Rings_newerThan_10, ↓s_Rings_newerThan_11, ↓s_Rings_newerThan_14, ↓s_Rings_newerThan_15, ↓s_Rings_newerThan_16, ↓s_Rings_newerThan_17, ↓s_Rings_newerThan_20, ↓s_Rings_newerThan_21, ↓s_Rings_newerThan_22, ↓s_Rings_newerThan_25, ↓s_Rings_newerThan_28, ↓s_Rings_newerThan_29, nI_leI, nI_ltI, nI_eq, N_z, nI_add, pk_sub, pk_mul, kL_i, kL_r, kL_d, kL_l, kL_k, kL_f, Option.toList_some, Option.toList_none, List.cons_append, List.nil_append, bI_z, N_and, N_or, N_shl, N_shr, Nat.one_mul, Nat.reduceAdd, h1]
    rw [if_pos (by omega)]
    rfl
  | n + 1, i, hi => by
    have w2 := w.2.1.1
    have h1 := hr.1
    have h2 := (hr.2 i (by omega)).2.1
    have w3 := (w.2.1.2 i (by omega)).2.1
    rw [s_Rings_newerThan_2]
    simp (disch := omega) only [↓s_Rings_newerThan_0, ↓s_Rings_newerThan_1, ↓s_Rings_newerThan_3, ↓s_Rings_newerThan_4, ↓s_Rings_newerThan_7, ↓s_Rings_newerThan_10, ↓s_Rings_newerThan_11, ↓s_Rings_newerThan_14, ↓s_Rings_newerThan_15, ↓s_Rings_newerThan_16, ↓s_Rings_newerThan_17, ↓s_Rings_newerThan_20, ↓s_Rings_newerThan_21, ↓s_Rings_newerThan_22, ↓s_Rings_newerThan_25, ↓s_Rings_newerThan_28, ↓s_Rings_newerThan_29, nI_leI, nI_ltI, nI_eq, N_z, nI_add, pk_sub, pk_mul, kL_i, kL_r, kL_d, kL_l, kL_k, kL_f, Option.toList_some, Option.toList_none, List.cons_append, List.nil_append, bI_z, N_and, N_or, N_shl, N_shr, Nat.one_mul, Nat.reduceAdd, h1, h2, oI_eq]
    rw [if_neg (by omega)]
    unfold fst1
    by_cases hp : σ 4 i = x + 1
    · rw [if_neg (fun z => z hp), if_pos (decide_eq_true hp), oI_s]
    · rw [if_pos hp, if_neg (by simpa using hp)]
      exact l_Rings_newerThan w hr hx n (i + 1) (by omega)
theorem c_Rings_newerThan {x : Nat} (w : WF σ) (hr : rdR g 3 3 4 5 6 σ) (hx : x < 100) : cwp X d m_Rings_newerThan [.ref 3, .int (nI x)] (HP g hj) Q = Q (some (.int (oI (nwr σ x)))) (HP g hj) := by
  simp only [e_Rings_newerThan, ↓s_Rings_newerThan_0, ↓s_Rings_newerThan_1, ↓s_Rings_newerThan_3, ↓s_Rings_newerThan_4, ↓s_Rings_newerThan_7, ↓s_Rings_newerThan_10, ↓s_Rings_newerThan_11, ↓s_Rings_newerThan_14, ↓s_Rings_newerThan_15, ↓s_Rings_newerThan_16, ↓s_Rings_newerThan_17, ↓s_Rings_newerThan_20, ↓s_Rings_newerThan_21, ↓s_Rings_newerThan_22, ↓s_Rings_newerThan_25, ↓s_Rings_newerThan_28, ↓s_Rings_newerThan_29, kL_i, kL_d, kL_r]
  exact l_Rings_newerThan w hr hx _ 0 (by omega)
theorem l_M_newer {x : Nat} (w : WF σ) (hr : rdR g 51 4 53 54 55 σ) (hx : x < 100) : ∀ (n i : Nat), i + n = σ 2 0 → wp X d m_M_newer 2 [.ref 51, .int (nI x), .int (nI i)] [] (HP g hj) Q = Q (some (.int (oI (fst1 (fun r => decide (σ 4 r = x + 1)) n i)))) (HP g hj)
  | 0, i, hi => by
    have w2 := w.2.1.1
    have h1 := hr.1
    rw [s_M_newer_2]
    simp (disch := omega) only [↓s_M_newer_0, ↓s_M_newer_1, ↓s_M_newer_3, ↓s_M_newer_4, ↓s_M_newer_7, ↓s_M_newer_10, ↓s_M_newer_11, ↓s_M_newer_14, ↓s_M_newer_15, ↓s_M_newer_16, ↓s_M_newer_17, ↓s_M_newer_20, ↓s_M_newer_21, ↓s_M_newer_22, ↓s_M_newer_25, ↓s_M_newer_28, ↓s_M_newer_29, nI_leI, nI_ltI, nI_eq, N_z, nI_add, pk_sub, pk_mul, kL_i, kL_r, kL_d, kL_l, kL_k, kL_f, Option.toList_some, Option.toList_none, List.cons_append, List.nil_append, bI_z, N_and, N_or, N_shl, N_shr, Nat.one_mul, Nat.reduceAdd, h1]
    rw [if_pos (by omega)]
    rfl
  | n + 1, i, hi => by
    have w2 := w.2.1.1
    have h1 := hr.1
    have h2 := (hr.2 i (by omega)).2.1
    have w3 := (w.2.1.2 i (by omega)).2.1
    rw [s_M_newer_2]
    simp (disch := omega) only [↓s_M_newer_0, ↓s_M_newer_1, ↓s_M_newer_3, ↓s_M_newer_4, ↓s_M_newer_7, ↓s_M_newer_10, ↓s_M_newer_11, ↓s_M_newer_14, ↓s_M_newer_15, ↓s_M_newer_16, ↓s_M_newer_17, ↓s_M_newer_20, ↓s_M_newer_21, ↓s_M_newer_22, ↓s_M_newer_25, ↓s_M_newer_28, ↓s_M_newer_29, nI_leI, nI_ltI, nI_eq, N_z, nI_add, pk_sub, pk_mul, kL_i, kL_r, kL_d, kL_l, kL_k, kL_f, Option.toList_some, Option.toList_none, List.cons_append, List.nil_append, bI_z, N_and, N_or, N_shl, N_shr, Nat.one_mul, Nat.reduceAdd, h1, h2, oI_eq]
    rw [if_neg (by omega)]
    unfold fst1
    by_cases hp : σ 4 i = x + 1
    · rw [if_neg (fun z => z hp), if_pos (decide_eq_true hp), oI_s]
    · rw [if_pos hp, if_neg (by simpa using hp)]
      exact l_M_newer w hr hx n (i + 1) (by omega)
theorem c_M_newer {x : Nat} (w : WF σ) (hr : rdR g 51 4 53 54 55 σ) (hx : x < 100) : cwp X d m_M_newer [.ref 51, .int (nI x)] (HP g hj) Q = Q (some (.int (oI (nwr σ x)))) (HP g hj) := by
  simp only [e_M_newer, ↓s_M_newer_0, ↓s_M_newer_1, ↓s_M_newer_3, ↓s_M_newer_4, ↓s_M_newer_7, ↓s_M_newer_10, ↓s_M_newer_11, ↓s_M_newer_14, ↓s_M_newer_15, ↓s_M_newer_16, ↓s_M_newer_17, ↓s_M_newer_20, ↓s_M_newer_21, ↓s_M_newer_22, ↓s_M_newer_25, ↓s_M_newer_28, ↓s_M_newer_29, kL_i, kL_d, kL_r]
  exact l_M_newer w hr hx _ 0 (by omega)
theorem l_Rings_timesHeld {x : Nat} (w : WF σ) (hr : rdHc g hj σ) (hx : x < 100) : ∀ (n i : Nat), i + n = σ 6 0 → wp X d m_Rings_timesHeld 4 [.ref 3, .int (nI x), .int (nI (cnt1 (fun h => decide (σ 7 h = x)) i)), .int (nI i)] [] (HP g hj) Q = Q (some (.int (nI (hmy σ x)))) (HP g hj)
  | 0, i, hi => by
    have w2 := w.2.2.1.1
    have h1 := hr.1
    have e : i = σ 6 0 := by omega
    subst e
    rw [s_Rings_timesHeld_4]
    simp (disch := omega) only [↓s_Rings_timesHeld_0, ↓s_Rings_timesHeld_1, ↓s_Rings_timesHeld_2, ↓s_Rings_timesHeld_3, ↓s_Rings_timesHeld_5, ↓s_Rings_timesHeld_6, ↓s_Rings_timesHeld_9, ↓s_Rings_timesHeld_12, ↓s_Rings_timesHeld_13, ↓s_Rings_timesHeld_16, ↓s_Rings_timesHeld_17, ↓s_Rings_timesHeld_18, ↓s_Rings_timesHeld_19, ↓s_Rings_timesHeld_22, ↓s_Rings_timesHeld_25, ↓s_Rings_timesHeld_28, ↓s_Rings_timesHeld_31, ↓s_Rings_timesHeld_32, nI_leI, nI_ltI, nI_eq, N_z, nI_add, pk_sub, pk_mul, kL_i, kL_r, kL_d, kL_l, kL_k, kL_f, Option.toList_some, Option.toList_none, List.cons_append, List.nil_append, bI_z, N_and, N_or, N_shl, N_shr, Nat.one_mul, Nat.reduceAdd, h1, Nat.le_refl, if_true]
    rfl
  | n + 1, i, hi => by
    have w2 := w.2.2.1.1
    have h1 := hr.1
    have h2 := (hr.2 i (by omega)).1
    have w3 := (w.2.2.1.2 i (by omega)).1
    have w4 := w.2.1.1
    have e : cnt1 (fun h => decide (σ 7 h = x)) (i + 1) = cnt1 (fun h => decide (σ 7 h = x)) i + (if decide (σ 7 i = x) = true then 1 else 0) := rfl
    rw [s_Rings_timesHeld_4]
    simp (disch := omega) only [↓s_Rings_timesHeld_0, ↓s_Rings_timesHeld_1, ↓s_Rings_timesHeld_2, ↓s_Rings_timesHeld_3, ↓s_Rings_timesHeld_5, ↓s_Rings_timesHeld_6, ↓s_Rings_timesHeld_9, ↓s_Rings_timesHeld_12, ↓s_Rings_timesHeld_13, ↓s_Rings_timesHeld_16, ↓s_Rings_timesHeld_17, ↓s_Rings_timesHeld_18, ↓s_Rings_timesHeld_19, ↓s_Rings_timesHeld_22, ↓s_Rings_timesHeld_25, ↓s_Rings_timesHeld_28, ↓s_Rings_timesHeld_31, ↓s_Rings_timesHeld_32, nI_leI, nI_ltI, nI_eq, N_z, nI_add, pk_sub, pk_mul, kL_i, kL_r, kL_d, kL_l, kL_k, kL_f, Option.toList_some, Option.toList_none, List.cons_append, List.nil_append, bI_z, N_and, N_or, N_shl, N_shr, Nat.one_mul, Nat.reduceAdd, h1, h2]
    rw [if_neg (by omega)]
    by_cases hp : σ 7 i = x
    · rw [if_neg (fun z => z hp)]
      rw [if_pos (decide_eq_true hp)] at e
      rw [← e]
      exact l_Rings_timesHeld w hr hx n (i + 1) (by omega)
    · rw [if_pos hp]
      rw [if_neg (by simpa using hp)] at e
      simp only [Nat.add_zero] at e
      rw [← e]
      exact l_Rings_timesHeld w hr hx n (i + 1) (by omega)
theorem c_Rings_timesHeld {x : Nat} (w : WF σ) (hr : rdHc g hj σ) (hx : x < 100) : cwp X d m_Rings_timesHeld [.ref 3, .int (nI x)] (HP g hj) Q = Q (some (.int (nI (hmy σ x)))) (HP g hj) := by
  simp only [e_Rings_timesHeld, ↓s_Rings_timesHeld_0, ↓s_Rings_timesHeld_1, ↓s_Rings_timesHeld_2, ↓s_Rings_timesHeld_3, ↓s_Rings_timesHeld_5, ↓s_Rings_timesHeld_6, ↓s_Rings_timesHeld_9, ↓s_Rings_timesHeld_12, ↓s_Rings_timesHeld_13, ↓s_Rings_timesHeld_16, ↓s_Rings_timesHeld_17, ↓s_Rings_timesHeld_18, ↓s_Rings_timesHeld_19, ↓s_Rings_timesHeld_22, ↓s_Rings_timesHeld_25, ↓s_Rings_timesHeld_28, ↓s_Rings_timesHeld_31, ↓s_Rings_timesHeld_32, kL_i, kL_d, kL_r]
  exact l_Rings_timesHeld w hr hx (σ 6 0) 0 (by omega)
theorem l_M_heldMany {x : Nat} (w : WF σ) (hr : rdHm g σ) (hx : x < 100) : ∀ (n i : Nat), i + n = σ 6 0 → wp X d m_M_heldMany 4 [.ref 51, .int (nI x), .int (nI (cnt1 (fun h => decide (σ 7 h = x)) i)), .int (nI i)] [] (HP g hj) Q = Q (some (.int (nI (hmy σ x)))) (HP g hj)
  | 0, i, hi => by
    have w2 := w.2.2.1.1
    have h1 := hr.1
    have e : i = σ 6 0 := by omega
    subst e
    rw [s_M_heldMany_4]
    simp (disch := omega) only [↓s_M_heldMany_0, ↓s_M_heldMany_1, ↓s_M_heldMany_2, ↓s_M_heldMany_3, ↓s_M_heldMany_5, ↓s_M_heldMany_6, ↓s_M_heldMany_9, ↓s_M_heldMany_12, ↓s_M_heldMany_13, ↓s_M_heldMany_14, ↓s_M_heldMany_17, ↓s_M_heldMany_18, ↓s_M_heldMany_19, ↓s_M_heldMany_20, ↓s_M_heldMany_23, ↓s_M_heldMany_24, ↓s_M_heldMany_27, ↓s_M_heldMany_28, ↓s_M_heldMany_29, ↓s_M_heldMany_30, ↓s_M_heldMany_33, ↓s_M_heldMany_36, ↓s_M_heldMany_37, nI_leI, nI_ltI, nI_eq, N_z, nI_add, pk_sub, pk_mul, kL_i, kL_r, kL_d, kL_l, kL_k, kL_f, Option.toList_some, Option.toList_none, List.cons_append, List.nil_append, bI_z, N_and, N_or, N_shl, N_shr, Nat.one_mul, Nat.reduceAdd, h1, Nat.le_refl, if_true]
    rfl
  | n + 1, i, hi => by
    have w2 := w.2.2.1.1
    have h1 := hr.1
    have h2 := (hr.2 i (by omega)).1
    have w3 := (w.2.2.1.2 i (by omega)).1
    have w4 := w.2.1.1
    have e : cnt1 (fun h => decide (σ 7 h = x)) (i + 1) = cnt1 (fun h => decide (σ 7 h = x)) i + (if decide (σ 7 i = x) = true then 1 else 0) := rfl
    rw [s_M_heldMany_4]
    simp (disch := omega) only [↓s_M_heldMany_0, ↓s_M_heldMany_1, ↓s_M_heldMany_2, ↓s_M_heldMany_3, ↓s_M_heldMany_5, ↓s_M_heldMany_6, ↓s_M_heldMany_9, ↓s_M_heldMany_12, ↓s_M_heldMany_13, ↓s_M_heldMany_14, ↓s_M_heldMany_17, ↓s_M_heldMany_18, ↓s_M_heldMany_19, ↓s_M_heldMany_20, ↓s_M_heldMany_23, ↓s_M_heldMany_24, ↓s_M_heldMany_27, ↓s_M_heldMany_28, ↓s_M_heldMany_29, ↓s_M_heldMany_30, ↓s_M_heldMany_33, ↓s_M_heldMany_36, ↓s_M_heldMany_37, nI_leI, nI_ltI, nI_eq, N_z, nI_add, pk_sub, pk_mul, kL_i, kL_r, kL_d, kL_l, kL_k, kL_f, Option.toList_some, Option.toList_none, List.cons_append, List.nil_append, bI_z, N_and, N_or, N_shl, N_shr, Nat.one_mul, Nat.reduceAdd, h1, h2]
    rw [if_neg (by omega)]
    by_cases hp : σ 7 i = x
    · rw [if_neg (fun z => z hp)]
      rw [if_pos (decide_eq_true hp)] at e
      rw [← e]
      exact l_M_heldMany w hr hx n (i + 1) (by omega)
    · rw [if_pos hp]
      rw [if_neg (by simpa using hp)] at e
      rw [← e]
      exact l_M_heldMany w hr hx n (i + 1) (by omega)
theorem c_M_heldMany {x : Nat} (w : WF σ) (hr : rdHm g σ) (hx : x < 100) : cwp X d m_M_heldMany [.ref 51, .int (nI x)] (HP g hj) Q = Q (some (.int (nI (hmy σ x)))) (HP g hj) := by
  simp only [e_M_heldMany, ↓s_M_heldMany_0, ↓s_M_heldMany_1, ↓s_M_heldMany_2, ↓s_M_heldMany_3, ↓s_M_heldMany_5, ↓s_M_heldMany_6, ↓s_M_heldMany_9, ↓s_M_heldMany_12, ↓s_M_heldMany_13, ↓s_M_heldMany_14, ↓s_M_heldMany_17, ↓s_M_heldMany_18, ↓s_M_heldMany_19, ↓s_M_heldMany_20, ↓s_M_heldMany_23, ↓s_M_heldMany_24, ↓s_M_heldMany_27, ↓s_M_heldMany_28, ↓s_M_heldMany_29, ↓s_M_heldMany_30, ↓s_M_heldMany_33, ↓s_M_heldMany_36, ↓s_M_heldMany_37, kL_i, kL_d, kL_r]
  exact l_M_heldMany w hr hx (σ 6 0) 0 (by omega)
theorem l_Rings_stoneOf (w : WF σ) (hr : rdR g 3 3 4 5 6 σ) {r0 : Nat} : ∀ (n i r : Nat), i + n = 6 → r < σ 2 0 → wp X d m_Rings_stoneOf 4 [.ref 3, .int (nI r0), .int (nI r), .int (nI i)] [] (HP g hj) Q = Q (some (.int (nI (stn σ n r)))) (HP g hj)
  | 0, i, r, hi, h0 => by
    have e : i = 6 := by omega
    subst e
    rw [s_Rings_stoneOf_4]
    simp (disch := omega) only [↓s_Rings_stoneOf_0, ↓s_Rings_stoneOf_1, ↓s_Rings_stoneOf_2, ↓s_Rings_stoneOf_3, ↓s_Rings_stoneOf_5, ↓s_Rings_stoneOf_7, ↓s_Rings_stoneOf_10, ↓s_Rings_stoneOf_11, ↓s_Rings_stoneOf_14, ↓s_Rings_stoneOf_15, ↓s_Rings_stoneOf_16, ↓s_Rings_stoneOf_17, ↓s_Rings_stoneOf_20, ↓s_Rings_stoneOf_21, ↓s_Rings_stoneOf_24, ↓s_Rings_stoneOf_25, ↓s_Rings_stoneOf_26, ↓s_Rings_stoneOf_27, ↓s_Rings_stoneOf_30, ↓s_Rings_stoneOf_33, ↓s_Rings_stoneOf_34, nI_leI, nI_ltI, nI_eq, N_z, nI_add, pk_sub, pk_mul, kL_i, kL_r, kL_d, kL_l, kL_k, kL_f, Option.toList_some, Option.toList_none, List.cons_append, List.nil_append, bI_z, N_and, N_or, N_shl, N_shr, Nat.one_mul, Nat.reduceAdd, Nat.le_refl, if_true]
    rfl
  | n + 1, i, r, hi, h0 => by
    have w2 := w.2.1.1
    have h2 := (hr.2 r h0).2.1
    have w3 := (w.2.1.2 r h0).2.1
    rw [s_Rings_stoneOf_4]
    simp (disch := omega) only [↓s_Rings_stoneOf_0, ↓s_Rings_stoneOf_1, ↓s_Rings_stoneOf_2, ↓s_Rings_stoneOf_3, ↓s_Rings_stoneOf_5, ↓s_Rings_stoneOf_7, ↓s_Rings_stoneOf_10, ↓s_Rings_stoneOf_11, ↓s_Rings_stoneOf_14, ↓s_Rings_stoneOf_15, ↓s_Rings_stoneOf_16, ↓s_Rings_stoneOf_17, ↓s_Rings_stoneOf_20, ↓s_Rings_stoneOf_21, ↓s_Rings_stoneOf_24, ↓s_Rings_stoneOf_25, ↓s_Rings_stoneOf_26, ↓s_Rings_stoneOf_27, ↓s_Rings_stoneOf_30, ↓s_Rings_stoneOf_33, ↓s_Rings_stoneOf_34, nI_leI, nI_ltI, nI_eq, N_z, nI_add, pk_sub, pk_mul, kL_i, kL_r, kL_d, kL_l, kL_k, kL_f, Option.toList_some, Option.toList_none, List.cons_append, List.nil_append, bI_z, N_and, N_or, N_shl, N_shr, Nat.one_mul, Nat.reduceAdd, h2, oI_m1]
    rw [if_neg (by omega)]
    unfold stn
    by_cases hp : σ 4 r = 0
    · rw [if_pos hp, if_pos hp]
    · rw [if_neg hp, if_neg hp]
      have : oI (σ 4 r) = nI (σ 4 r - 1) := if_neg hp
      rw [this]
      exact l_Rings_stoneOf w hr n (i + 1) (σ 4 r - 1) (by omega) (by omega)
theorem c_Rings_stoneOf {r : Nat} (w : WF σ) (hr : rdR g 3 3 4 5 6 σ) (h0 : r < σ 2 0) : cwp X d m_Rings_stoneOf [.ref 3, .int (nI r)] (HP g hj) Q = Q (some (.int (nI (stone σ r)))) (HP g hj) := by
  simp only [e_Rings_stoneOf, ↓s_Rings_stoneOf_0, ↓s_Rings_stoneOf_1, ↓s_Rings_stoneOf_2, ↓s_Rings_stoneOf_3, ↓s_Rings_stoneOf_5, ↓s_Rings_stoneOf_7, ↓s_Rings_stoneOf_10, ↓s_Rings_stoneOf_11, ↓s_Rings_stoneOf_14, ↓s_Rings_stoneOf_15, ↓s_Rings_stoneOf_16, ↓s_Rings_stoneOf_17, ↓s_Rings_stoneOf_20, ↓s_Rings_stoneOf_21, ↓s_Rings_stoneOf_24, ↓s_Rings_stoneOf_25, ↓s_Rings_stoneOf_26, ↓s_Rings_stoneOf_27, ↓s_Rings_stoneOf_30, ↓s_Rings_stoneOf_33, ↓s_Rings_stoneOf_34, kL_i, kL_d, kL_r]
  exact l_Rings_stoneOf w hr 6 0 r rfl h0
theorem l_M_stoneOf (w : WF σ) (hr : rdR g 51 4 53 54 55 σ) {r0 : Nat} : ∀ (n r : Nat), r < n → r < σ 2 0 → wp X d m_M_stoneOf 2 [.ref 51, .int (nI r0), .int (nI r)] [] (HP g hj) Q = Q (some (.int (nI (stn σ n r)))) (HP g hj)
  | 0, r, hi, h0 => by omega
  | n + 1, r, hi, h0 => by
    have w2 := w.2.1.1
    have h2 := (hr.2 r h0).2.1
    have w3 := (w.2.1.2 r h0).2.1
    rw [s_M_stoneOf_2]
    simp (disch := omega) only [↓s_M_stoneOf_0, ↓s_M_stoneOf_1, ↓s_M_stoneOf_3, ↓s_M_stoneOf_6, ↓s_M_stoneOf_7, ↓s_M_stoneOf_8, ↓s_M_stoneOf_9, ↓s_M_stoneOf_12, ↓s_M_stoneOf_13, ↓s_M_stoneOf_16, ↓s_M_stoneOf_17, ↓s_M_stoneOf_18, ↓s_M_stoneOf_19, ↓s_M_stoneOf_22, ↓s_M_stoneOf_23, nI_leI, nI_ltI, nI_eq, N_z, nI_add, pk_sub, pk_mul, kL_i, kL_r, kL_d, kL_l, kL_k, kL_f, Option.toList_some, Option.toList_none, List.cons_append, List.nil_append, bI_z, N_and, N_or, N_shl, N_shr, Nat.one_mul, Nat.reduceAdd, h2, oI_m1]
    unfold stn
    by_cases hp : σ 4 r = 0
    · rw [if_pos hp, if_pos hp]
    · rw [if_neg hp, if_neg hp]
      have : oI (σ 4 r) = nI (σ 4 r - 1) := if_neg hp
      rw [this]
      exact l_M_stoneOf w hr n (σ 4 r - 1) (by omega) (by omega)
theorem c_M_stoneOf {r : Nat} (w : WF σ) (hr : rdR g 51 4 53 54 55 σ) (h0 : r < σ 2 0) : cwp X d m_M_stoneOf [.ref 51, .int (nI r)] (HP g hj) Q = Q (some (.int (nI (stone σ r)))) (HP g hj) := by
  have w2 := w.2.1.1
  simp only [e_M_stoneOf, ↓s_M_stoneOf_0, ↓s_M_stoneOf_1, kL_i, kL_d, kL_r]
  exact l_M_stoneOf w hr 6 r (by omega) h0
end RINGS
