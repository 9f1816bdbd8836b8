section LEAF2
variable {X : AX} {d : Nat} {h : AH} {Q : Option Value → AH → Prop}
/-- a picture turned: the cells below n are laid down -/
def tbn (a t : Nat) : Nat → Nat
  | 0 => 0
  | n + 1 => tbn a t n ||| (if a.testBit n = true then 2 ^ cat n t else 0)
def turn (a t : Nat) : Nat := tbn a t 16
theorem pow_lt16 {k : Nat} (h : k < 16) : 2 ^ k < 65536 := Nat.pow_lt_pow_right (by omega) h
theorem tbn_lt (a t : Nat) : ∀ n, n ≤ 16 → tbn a t n < 65536
  | 0, _ => by simp [tbn]
  | n + 1, hn => by
    have h1 := tbn_lt a t n (by omega)
    unfold tbn
    refine Nat.or_lt_two_pow (n := 16) h1 ?_
    split
    · exact pow_lt16 (cat_lt (by omega) t)
    · omega
theorem turn_lt (a t : Nat) : turn a t < 65536 := tbn_lt a t 16 (Nat.le_refl _)
theorem l_M_turnedBits {a t : Nat} (ha : a < 2147483648) (ht : t < 4) : ∀ (n i : Nat), i + n = 16 → wp X (d + 2) m_M_turnedBits 4 [.int (nI a), .int (nI t), .int (nI (tbn a t i)), .int (nI i)] [] h Q = Q (some (.int (nI (turn a t)))) h
  | 0, i, hi => by
    have : i = 16 := by omega
    subst this
    simp (disch := omega) only [↓s_M_turnedBits_0, ↓s_M_turnedBits_1, ↓s_M_turnedBits_2, ↓s_M_turnedBits_3, ↓s_M_turnedBits_4, ↓s_M_turnedBits_5, ↓s_M_turnedBits_7, ↓s_M_turnedBits_10, ↓s_M_turnedBits_11, ↓s_M_turnedBits_12, ↓s_M_turnedBits_13, ↓s_M_turnedBits_16, ↓s_M_turnedBits_19, ↓s_M_turnedBits_20, ↓s_M_turnedBits_21, ↓s_M_turnedBits_22, ↓s_M_turnedBits_25, ↓s_M_turnedBits_26, ↓s_M_turnedBits_29, ↓s_M_turnedBits_30, ↓s_M_turnedBits_31, ↓s_M_turnedBits_32, ↓s_M_turnedBits_35, ↓s_M_turnedBits_38, ↓s_M_turnedBits_39, nI_leI, Nat.le_refl, if_true]
    rfl
  | n + 1, i, hi => by
    have hc := cat_lt (show i < 16 by omega) t
    rw [s_M_turnedBits_4]
    simp (disch := omega) only [↓s_M_turnedBits_0, ↓s_M_turnedBits_1, ↓s_M_turnedBits_2, ↓s_M_turnedBits_3, ↓s_M_turnedBits_5, ↓s_M_turnedBits_7, ↓s_M_turnedBits_10, ↓s_M_turnedBits_11, ↓s_M_turnedBits_12, ↓s_M_turnedBits_13, ↓s_M_turnedBits_16, ↓s_M_turnedBits_19, ↓s_M_turnedBits_20, ↓s_M_turnedBits_21, ↓s_M_turnedBits_22, ↓s_M_turnedBits_25, ↓s_M_turnedBits_26, ↓s_M_turnedBits_29, ↓s_M_turnedBits_30, ↓s_M_turnedBits_31, ↓s_M_turnedBits_32, ↓s_M_turnedBits_35, ↓s_M_turnedBits_38, ↓s_M_turnedBits_39, nI_leI, c_M_has, c_M_cellAt, Option.toList_some, List.cons_append, List.nil_append, kL_i, nI_add, bI_z, N_shl, N_or, Nat.one_mul]
    rw [if_neg (by omega)]
    have e : tbn a t (i + 1) = tbn a t i ||| (if a.testBit i = true then 2 ^ cat i t else 0) := rfl
    by_cases hb : a.testBit i = true
    · rw [if_neg (fun z => z hb)]
      rw [if_pos hb] at e
      rw [← e]
      exact l_M_turnedBits ha ht n (i + 1) (by omega)
    · rw [if_pos hb]
      rw [if_neg hb] at e
      rw [← e]
      exact l_M_turnedBits ha ht n (i + 1) (by omega)
theorem c_M_turnedBits {a t : Nat} (ha : a < 2147483648) (ht : t < 4) : cwp X (d + 2) m_M_turnedBits [.int (nI a), .int (nI t)] h Q = Q (some (.int (nI (turn a t)))) h := by
  simp only [e_M_turnedBits, ↓s_M_turnedBits_0, ↓s_M_turnedBits_1, ↓s_M_turnedBits_2, ↓s_M_turnedBits_3, ↓s_M_turnedBits_5, ↓s_M_turnedBits_7, ↓s_M_turnedBits_10, ↓s_M_turnedBits_11, ↓s_M_turnedBits_12, ↓s_M_turnedBits_13, ↓s_M_turnedBits_16, ↓s_M_turnedBits_19, ↓s_M_turnedBits_20, ↓s_M_turnedBits_21, ↓s_M_turnedBits_22, ↓s_M_turnedBits_25, ↓s_M_turnedBits_26, ↓s_M_turnedBits_29, ↓s_M_turnedBits_30, ↓s_M_turnedBits_31, ↓s_M_turnedBits_32, ↓s_M_turnedBits_35, ↓s_M_turnedBits_38, ↓s_M_turnedBits_39, kL_i, kL_d]
  exact l_M_turnedBits ha ht 16 0 rfl
/-- turned so often, one by one -/
def turnR (a : Nat) : Nat → Nat
  | 0 => a
  | n + 1 => turn (turnR a n) 1
theorem turnR_lt {a : Nat} (ha : a < 65536) : ∀ n, turnR a n < 65536
  | 0 => ha
  | n + 1 => turn_lt _ _
theorem l_C_turnedRight_i {a t k : Nat} {v4 : Value} (ha : a < 65536) (ht : t < 5) (hk : k < t) {P : Prop} (K : wp X (d + 1) m_C_turnedRight 57 [.int (nI a), .int (nI t), .int (nI (turnR a k)), .int (nI k), .int (nI (turnR a (k + 1))), .int (nI 16)] [] h Q = P) : ∀ (n i : Nat), i + n = 16 → wp X (d + 1) m_C_turnedRight 15 [.int (nI a), .int (nI t), .int (nI (turnR a k)), .int (nI k), .int (nI (tbn (turnR a k) 1 i)), .int (nI i)] [] h Q = P
  | 0, i, hi => by
    have : i = 16 := by omega
    subst this
    rw [s_C_turnedRight_15]
    simp (disch := omega) only [↓s_C_turnedRight_17, ↓s_C_turnedRight_19, nI_leI, Nat.le_refl, if_true]
    exact K
  | n + 1, i, hi => by
    have hc := turnR_lt ha k
    have hq : cat i 1 = 4 * (i &&& 3) + 3 - i / 2 ^ 2 := by
      show qtr i = _
      unfold qtr
      rw [show i &&& 3 = i % 4 from Nat.and_two_pow_sub_one_eq_mod i 2]
    have hq2 : i / 2 ^ 2 ≤ 4 * (i &&& 3) + 3 := by omega
    have hq3 := cat_lt (show i < 16 by omega) 1
    have e : tbn (turnR a k) 1 (i + 1) = tbn (turnR a k) 1 i ||| (if (turnR a k).testBit i = true then 2 ^ cat i 1 else 0) := rfl
    rw [s_C_turnedRight_15]
    simp (disch := omega) only [↓s_C_turnedRight_0, ↓s_C_turnedRight_1, ↓s_C_turnedRight_2, ↓s_C_turnedRight_3, ↓s_C_turnedRight_5, ↓s_C_turnedRight_6, ↓s_C_turnedRight_9, ↓s_C_turnedRight_10, ↓s_C_turnedRight_12, ↓s_C_turnedRight_13, ↓s_C_turnedRight_17, ↓s_C_turnedRight_19, ↓s_C_turnedRight_22, ↓s_C_turnedRight_23, ↓s_C_turnedRight_25, ↓s_C_turnedRight_28, ↓s_C_turnedRight_31, ↓s_C_turnedRight_33, ↓s_C_turnedRight_34, ↓s_C_turnedRight_35, ↓s_C_turnedRight_37, ↓s_C_turnedRight_38, ↓s_C_turnedRight_39, ↓s_C_turnedRight_40, ↓s_C_turnedRight_41, ↓s_C_turnedRight_42, ↓s_C_turnedRight_44, ↓s_C_turnedRight_45, ↓s_C_turnedRight_46, ↓s_C_turnedRight_47, ↓s_C_turnedRight_48, ↓s_C_turnedRight_49, ↓s_C_turnedRight_51, ↓s_C_turnedRight_54, ↓s_C_turnedRight_57, ↓s_C_turnedRight_59, ↓s_C_turnedRight_60, ↓s_C_turnedRight_63, ↓s_C_turnedRight_66, ↓s_C_turnedRight_67, nI_leI, c_C_hasBit, Option.toList_some, List.cons_append, List.nil_append, kL_i, nI_add, bI_z, N_and, N_shr, pk_mul, pk_sub]
    rw [if_neg (by omega), ← hq]
    simp (disch := omega) only [N_shl, N_or, Nat.one_mul]
    by_cases hb : (turnR a k).testBit i = true
    · rw [if_neg (fun z => z hb)]
      rw [if_pos hb] at e
      rw [← e]
      exact l_C_turnedRight_i (v4 := v4) ha ht hk K n (i + 1) (by omega)
    · rw [if_pos hb]
      rw [if_neg hb, Nat.or_zero] at e
      rw [← e]
      exact l_C_turnedRight_i (v4 := v4) ha ht hk K n (i + 1) (by omega)
theorem l_C_turnedRight {a t : Nat} (ha : a < 65536) (ht : t < 5) : ∀ (n i : Nat) (v4 v5 : Value), i + n = t → wp X (d + 1) m_C_turnedRight 4 [.int (nI a), .int (nI t), .int (nI (turnR a i)), .int (nI i), v4, v5] [] h Q = Q (some (.int (nI (turnR a t)))) h
  | 0, i, v4, v5, hi => by
    have : i = t := by omega
    subst this
    rw [s_C_turnedRight_4]
    simp (disch := omega) only [↓s_C_turnedRight_5, ↓s_C_turnedRight_6, ↓s_C_turnedRight_66, ↓s_C_turnedRight_67, nI_leI, Nat.le_refl, if_true]
  | n + 1, i, v4, v5, hi => by
    rw [s_C_turnedRight_4]
    simp (disch := omega) only [↓s_C_turnedRight_5, ↓s_C_turnedRight_6, ↓s_C_turnedRight_9, ↓s_C_turnedRight_10, ↓s_C_turnedRight_12, ↓s_C_turnedRight_13, nI_leI, kL_i]
    rw [if_neg (by omega)]
    refine l_C_turnedRight_i (v4 := v4) (k := i) ha ht (by omega) ?_ 16 0 rfl
    simp (disch := omega) only [↓s_C_turnedRight_57, ↓s_C_turnedRight_59, ↓s_C_turnedRight_60, ↓s_C_turnedRight_63, kL_i, nI_add]
    exact l_C_turnedRight ha ht n (i + 1) _ _ (by omega)
theorem c_C_turnedRight {a t : Nat} (ha : a < 65536) (ht : t < 5) : cwp X (d + 1) m_C_turnedRight [.int (nI a), .int (nI t)] h Q = Q (some (.int (nI (turnR a t)))) h := by
  simp only [e_C_turnedRight, ↓s_C_turnedRight_0, ↓s_C_turnedRight_1, ↓s_C_turnedRight_2, ↓s_C_turnedRight_3, kL_i, kL_d]
  exact l_C_turnedRight ha ht t 0 _ _ (by omega)
end LEAF2
