/-! leaves: small methods without a state -/
section LEAF
variable {X : AX} {d : Nat} {h : AH} {Q : Option Value → AH → Prop}
theorem c_C_isBelow {a b : Int32} : cwp X d m_C_isBelow [.int a, .int b] h Q = Q (some (.int (bI (0 ≤ a ∧ a < b)))) h := by
  simp only [e_C_isBelow, ↓s_C_isBelow_0, ↓s_C_isBelow_1, ↓s_C_isBelow_4, ↓s_C_isBelow_5, ↓s_C_isBelow_6, ↓s_C_isBelow_9, ↓s_C_isBelow_10, ↓s_C_isBelow_13, ↓s_C_isBelow_14_0, ↓s_C_isBelow_14_1, ↓s_C_isBelow_14_b]
  by_cases h1 : a < 0
  · rw [if_pos h1, bI_f (fun z => absurd h1 (Int32.not_lt.mpr z.1))]
  · rw [if_neg h1]
    by_cases h2 : b ≤ a
    · rw [if_pos h2, bI_f (fun z => absurd h2 (Int32.not_le.mpr z.2))]
    · rw [if_neg h2, bI_t ⟨Int32.not_lt.mp h1, Int32.not_le.mp h2⟩]
theorem c_M_in {a b c : Int32} : cwp X d m_M_in [.int a, .int b, .int c] h Q = Q (some (.int (bI (b ≤ a ∧ a ≤ c)))) h := by
  simp only [e_M_in, ↓s_M_in_0, ↓s_M_in_1, ↓s_M_in_2, ↓s_M_in_5, ↓s_M_in_6, ↓s_M_in_7, ↓s_M_in_10, ↓s_M_in_11, ↓s_M_in_14, ↓s_M_in_15_0, ↓s_M_in_15_1, ↓s_M_in_15_b]
  by_cases h1 : a < b
  · rw [if_pos h1, bI_f (fun z => absurd h1 (Int32.not_lt.mpr z.1))]
  · rw [if_neg h1]
    by_cases h2 : c < a
    · rw [if_pos h2, bI_f (fun z => absurd h2 (Int32.not_lt.mpr z.2))]
    · rw [if_neg h2, bI_t ⟨Int32.not_lt.mp h1, Int32.not_lt.mp h2⟩]
/-- how many of the first n bits are set -/
def pcn (a : Nat) : Nat → Nat
  | 0 => 0
  | n + 1 => pcn a n + a / 2 ^ n % 2
theorem pcn_le (a : Nat) : ∀ n, pcn a n ≤ n
  | 0 => Nat.le_refl 0
  | n + 1 => by
    have := pcn_le a n
    have : a / 2 ^ n % 2 < 2 := Nat.mod_lt _ (by omega)
    simp only [pcn]
    omega
theorem N_bit {a k : Nat} (ha : a < 2147483648) (hk : k < 32) : (nI a >>> (nI k &&& 31)) &&& nI 1 = nI (a / 2 ^ k % 2) := by
  rw [N_shr ha hk, N_and, Nat.and_one_is_mod]
theorem l_M_onesOf {a : Nat} (ha : a < 2147483648) : ∀ (n i : Nat), i + n = 16 → wp X d m_M_onesOf 4 [.int (nI a), .int (nI (pcn a i)), .int (nI i)] [] h Q = Q (some (.int (nI (pcn a 16)))) h
  | 0, i, hi => by
    have : i = 16 := by omega
    subst this
    simp only [↓s_M_onesOf_0, ↓s_M_onesOf_1, ↓s_M_onesOf_2, ↓s_M_onesOf_3, ↓s_M_onesOf_4, ↓s_M_onesOf_5, ↓s_M_onesOf_7, ↓s_M_onesOf_10, ↓s_M_onesOf_11, ↓s_M_onesOf_12, ↓s_M_onesOf_13, ↓s_M_onesOf_14, ↓s_M_onesOf_15, ↓s_M_onesOf_16, ↓s_M_onesOf_17, ↓s_M_onesOf_18, ↓s_M_onesOf_21, ↓s_M_onesOf_24, ↓s_M_onesOf_25]
    rw [if_pos (Int32.le_refl _)]
  | n + 1, i, hi => by
    rw [s_M_onesOf_4]
    simp (disch := omega) only [↓s_M_onesOf_0, ↓s_M_onesOf_1, ↓s_M_onesOf_2, ↓s_M_onesOf_3, ↓s_M_onesOf_5, ↓s_M_onesOf_7, ↓s_M_onesOf_10, ↓s_M_onesOf_11, ↓s_M_onesOf_12, ↓s_M_onesOf_13, ↓s_M_onesOf_14, ↓s_M_onesOf_15, ↓s_M_onesOf_16, ↓s_M_onesOf_17, ↓s_M_onesOf_18, ↓s_M_onesOf_21, ↓s_M_onesOf_24, ↓s_M_onesOf_25, nI_leI]
    rw [if_neg (by omega)]
    simp (disch := omega) only [N_bit, nI_add, kL_i, nI_1]
    exact l_M_onesOf ha n (i + 1) (by omega)
theorem c_M_onesOf {a : Nat} (ha : a < 2147483648) : cwp X d m_M_onesOf [.int (nI a)] h Q = Q (some (.int (nI (pcn a 16)))) h := by
  simp only [e_M_onesOf, ↓s_M_onesOf_0, ↓s_M_onesOf_1, ↓s_M_onesOf_2, ↓s_M_onesOf_3, ↓s_M_onesOf_5, ↓s_M_onesOf_7, ↓s_M_onesOf_10, ↓s_M_onesOf_11, ↓s_M_onesOf_12, ↓s_M_onesOf_13, ↓s_M_onesOf_14, ↓s_M_onesOf_15, ↓s_M_onesOf_16, ↓s_M_onesOf_17, ↓s_M_onesOf_18, ↓s_M_onesOf_21, ↓s_M_onesOf_24, ↓s_M_onesOf_25, kL_i, kL_d]
  exact l_M_onesOf ha 16 0 rfl
theorem ite_b {P : Int32 → Prop} {c : Prop} [Decidable c] : (if c then P (nI 1) else P (nI 0)) = P (bI c) := by
  unfold bI
  by_cases hc : c
  · simp [hc]
  · simp [hc]
theorem ite_n {P : Int32 → Prop} {c : Prop} [Decidable c] : (if c then P (nI 0) else P (nI 1)) = P (bI (¬ c)) := by
  unfold bI
  by_cases hc : c
  · simp [hc]
  · simp [hc]
theorem tb_dm (a k : Nat) : (a / 2 ^ k % 2 = 1) = (a.testBit k = true) := by
  rw [Nat.testBit_eq_decide_div_mod_eq, decide_eq_true_eq]
theorem tb_01 (a k : Nat) : a / 2 ^ k % 2 = 0 ∨ a / 2 ^ k % 2 = 1 := by omega
theorem c_M_has {a k : Nat} (ha : a < 2147483648) (hk : k < 32) : cwp X d m_M_has [.int (nI a), .int (nI k)] h Q = Q (some (.int (bI (a.testBit k = true)))) h := by
  have h1 : a / 2 ^ k % 2 < 2 := Nat.mod_lt _ (by omega)
  simp (disch := omega) only [e_M_has, ↓s_M_has_0, ↓s_M_has_1, ↓s_M_has_2, ↓s_M_has_3, ↓s_M_has_4, ↓s_M_has_5, ↓s_M_has_6, ↓s_M_has_9, ↓s_M_has_10, ↓s_M_has_13, ↓s_M_has_14_0, ↓s_M_has_14_1, ↓s_M_has_14_b, N_bit, nI_eq]
  rw [ite_n (P := fun z => Q (some (.int z)) h)]
  simp only [Decidable.not_not, tb_dm]
theorem c_C_hasBit {a k : Nat} (ha : a < 2147483648) (hk : k < 32) : cwp X d m_C_hasBit [.int (nI a), .int (nI k)] h Q = Q (some (.int (bI (a.testBit k = true)))) h := by
  have h1 : a / 2 ^ k % 2 < 2 := Nat.mod_lt _ (by omega)
  simp (disch := omega) only [e_C_hasBit, ↓s_C_hasBit_0, ↓s_C_hasBit_1, ↓s_C_hasBit_2, ↓s_C_hasBit_3, ↓s_C_hasBit_4, ↓s_C_hasBit_5, ↓s_C_hasBit_8, ↓s_C_hasBit_9, ↓s_C_hasBit_12, ↓s_C_hasBit_13_0, ↓s_C_hasBit_13_1, ↓s_C_hasBit_13_b, N_bit, N_z]
  rw [ite_n (P := fun z => Q (some (.int z)) h)]
  have : (¬ a / 2 ^ k % 2 = 0) = (a.testBit k = true) := by rw [← tb_dm]; apply propext; omega
  simp only [this]
theorem N_d4 {a : Nat} (ha : a < 2147483648) : nI a / 4 = nI (a / 4) := pk_div (d := 4) ha (by omega) (by omega)
theorem N_r4 {a : Nat} (ha : a < 2147483648) : nI a - nI a / 4 * 4 = nI (a % 4) := pk_rem (d := 4) ha (by omega) (by omega)
theorem N_r4b {a : Nat} (ha : a < 2147483648) : nI a - nI (a / 4) * 4 = nI (a % 4) := by rw [← N_d4 ha]; exact N_r4 ha
/-- where a cell comes by a quarter to the right -/
def qtr (c : Nat) : Nat := 4 * (c % 4) + 3 - c / 4
theorem qtr_lt {c : Nat} (h : c < 16) : qtr c < 16 := by unfold qtr; omega
def cat (c : Nat) : Nat → Nat
  | 0 => c
  | t + 1 => qtr (cat c t)
theorem cat_lt {c : Nat} (h : c < 16) : ∀ t, cat c t < 16
  | 0 => h
  | t + 1 => qtr_lt (cat_lt h t)
theorem c_M_quarter {c : Nat} (hc : c < 16) : cwp X d m_M_quarter [.int (nI c)] h Q = Q (some (.int (nI (qtr c)))) h := by
  simp (disch := omega) only [e_M_quarter, ↓s_M_quarter_0, ↓s_M_quarter_1, ↓s_M_quarter_2, ↓s_M_quarter_3, ↓s_M_quarter_4, ↓s_M_quarter_5, ↓s_M_quarter_6, ↓s_M_quarter_7, ↓s_M_quarter_8, ↓s_M_quarter_9, ↓s_M_quarter_10, ↓s_M_quarter_11, N_d4, N_r4b, pk_mul, nI_add, pk_sub]
  rfl
theorem l_M_cellAt {c t : Nat} (hc : c < 16) (ht : t < 4) : ∀ (n i : Nat), i + n = t → wp X (d + 1) m_M_cellAt 4 [.int (nI c), .int (nI t), .int (nI (cat c i)), .int (nI i)] [] h Q = Q (some (.int (nI (cat c t)))) h
  | 0, i, hi => by
    have : i = t := by omega
    subst this
    simp (disch := omega) only [↓s_M_cellAt_0, ↓s_M_cellAt_1, ↓s_M_cellAt_2, ↓s_M_cellAt_3, ↓s_M_cellAt_4, ↓s_M_cellAt_5, ↓s_M_cellAt_6, ↓s_M_cellAt_9, ↓s_M_cellAt_10, ↓s_M_cellAt_13, ↓s_M_cellAt_14, ↓s_M_cellAt_17, ↓s_M_cellAt_20, ↓s_M_cellAt_21, nI_leI, Nat.le_refl, if_true]
  | n + 1, i, hi => by
    have hq := cat_lt hc i
    rw [s_M_cellAt_4]
    simp (disch := omega) only [↓s_M_cellAt_0, ↓s_M_cellAt_1, ↓s_M_cellAt_2, ↓s_M_cellAt_3, ↓s_M_cellAt_5, ↓s_M_cellAt_6, ↓s_M_cellAt_9, ↓s_M_cellAt_10, ↓s_M_cellAt_13, ↓s_M_cellAt_14, ↓s_M_cellAt_17, ↓s_M_cellAt_20, ↓s_M_cellAt_21, nI_leI, c_M_quarter, Option.toList_some, List.cons_append, List.nil_append, kL_i, nI_add]
    rw [if_neg (by omega)]
    exact l_M_cellAt hc ht n (i + 1) (by omega)
theorem c_M_cellAt {c t : Nat} (hc : c < 16) (ht : t < 4) : cwp X (d + 1) m_M_cellAt [.int (nI c), .int (nI t)] h Q = Q (some (.int (nI (cat c t)))) h := by
  simp only [e_M_cellAt, ↓s_M_cellAt_0, ↓s_M_cellAt_1, ↓s_M_cellAt_2, ↓s_M_cellAt_3, ↓s_M_cellAt_5, ↓s_M_cellAt_6, ↓s_M_cellAt_9, ↓s_M_cellAt_10, ↓s_M_cellAt_13, ↓s_M_cellAt_14, ↓s_M_cellAt_17, ↓s_M_cellAt_20, ↓s_M_cellAt_21, kL_i, kL_d]
  exact l_M_cellAt hc ht t 0 (by omega)
end LEAF
