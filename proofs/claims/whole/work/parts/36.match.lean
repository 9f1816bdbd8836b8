/-! lumps: what they show of a ring, and their days -/
theorem bI_0 (c : Prop) [Decidable c] : (bI c = nI 0) = ¬ c := by
  unfold bI
  by_cases h : c
  · simp only [h, if_true]; decide
  · simp [h]
theorem N_m1x (a : Nat) : nI a ^^^ (-1 : Int32) = nI (a ^^^ 4294967295) := by rw [N_m1, N_xor]
theorem ita {α : Type} {P R : Prop} [Decidable P] [Decidable R] (x y : α) : (if P ∧ R then x else y) = if P then (if R then x else y) else y := by
  by_cases h1 : P
  · by_cases h2 : R
    · simp [h1, h2]
    · simp [h1, h2]
  · simp [h1]
def inr (a : Int32) (n : Nat) : Bool := decide (0 ≤ a ∧ a < nI n)
abbrev inR (a : Int32) (n : Nat) : Prop := inr a n = true
theorem inr_eq {a : Int32} {n : Nat} : (0 ≤ a ∧ a < nI n) = inR a n := by
  unfold inR inr
  rw [decide_eq_true_eq]
theorem inR_n {a : Int32} {n : Nat} (h0 : inR a n) (hn : n < 2147483648) : ∃ k, k < n ∧ a = nI k := by
  obtain ⟨h1, h2⟩ := inr_eq.mpr h0
  have e0 : (0 : Int32).toInt = 0 := rfl
  rw [Int32.le_iff_toInt_le, e0] at h1
  rw [Int32.lt_iff_toInt_lt, nI_toInt (by omega)] at h2
  refine ⟨a.toInt.toNat, by omega, ?_⟩
  apply Int32.toInt_inj.mp
  rw [nI_toInt (by omega)]
  omega
theorem inR_k {k n : Nat} (h : k < n) (hn : n < 2147483648) : inR (nI k) n := inr_eq.mp ⟨nI_pos' (by omega), (nI_ltI (by omega) (by omega)).mpr h⟩
def nn (a : Int32) : Nat := a.toNatClampNeg
theorem nn_n {k : Nat} (h : k < 2147483648) : nn (nI k) = k := nI_clamp (by omega)
def bts (p : Nat → Bool) : Nat → Nat
  | 0 => 0
  | n + 1 => bts p n ||| (if p n = true then 2 ^ n else 0)
theorem bts_tb (p : Nat → Bool) (i : Nat) : ∀ n, (bts p n).testBit i = (decide (i < n) && p i)
  | 0 => by simp [bts]
  | n + 1 => by
    unfold bts
    rw [Nat.testBit_or, bts_tb p i n]
    by_cases h : i = n
    · subst h
      by_cases hp : p i = true
      · rw [if_pos hp, Nat.testBit_two_pow_self]; simp [hp]
      · rw [if_neg hp]; simp [hp]
    · have h3 : (if p n = true then 2 ^ n else 0).testBit i = false := by
        split
        · rw [Nat.testBit_two_pow]; simp [Ne.symm h]
        · simp
      rw [h3]
      by_cases h4 : i < n
      · simp [h4, show i < n + 1 by omega]
      · simp [h4, show ¬ i < n + 1 by omega]
theorem bts_lt (p : Nat → Bool) : ∀ n, bts p n < 2 ^ n
  | 0 => by simp [bts]
  | n + 1 => by
    unfold bts
    have h := bts_lt p n
    have e : 2 ^ (n + 1) = 2 * 2 ^ n := by rw [Nat.pow_succ]; omega
    refine Nat.or_lt_two_pow (by omega) ?_
    split <;> omega
theorem bts_16 (p : Nat → Bool) {n : Nat} (h : n ≤ 16) : bts p n < 65536 := Nat.lt_of_lt_of_le (bts_lt p n) (by rw [show 65536 = 2 ^ 16 from rfl]; exact Nat.pow_le_pow_right (by omega) h)
theorem bts_cg {p q : Nat → Bool} : ∀ n, (∀ i, i < n → p i = q i) → bts p n = bts q n
  | 0, _ => rfl
  | n + 1, h => by
    unfold bts
    rw [bts_cg n (fun i hi => h i (by omega)), h n (by omega)]
theorem pow_le {k n : Nat} (h : k ≤ n) : 2 ^ k ≤ 2 ^ n := Nat.pow_le_pow_right (by omega) h
def nob (σ : ST) (l : Nat) : Nat := 65535 &&& (σ 12 l ^^^ 4294967295) &&& (σ 13 l ^^^ 4294967295)
def wh (σ : ST) (l t : Nat) : Nat := turnR (σ 12 l) ((4 - t) % 4)
def bl (σ : ST) (l t : Nat) : Nat := turnR (nob σ l) ((4 - t) % 4)
def ch (σ : ST) (l r t : Nat) : Nat := bl σ l t &&& σ 3 r
def ld (σ : ST) (l : Nat) : Nat := spn (σ 14 l) (σ 15 l)
def dd (σ : ST) (l r : Nat) : Nat := ld σ l &&& dys σ r
abbrev sno (σ : ST) (l r t : Nat) : Prop := wh σ l t &&& (σ 3 r ^^^ 4294967295) = 0
def cbb (σ : ST) (l r t : Nat) : Bool := decide (sno σ l r t ∧ dd σ l r ≠ 0)
abbrev cb (σ : ST) (l r t : Nat) : Prop := cbb σ l r t = true
theorem cb_eq {σ : ST} {l r t : Nat} : cb σ l r t ↔ (sno σ l r t ∧ dd σ l r ≠ 0) := decide_eq_true_iff
theorem nob_lt (σ : ST) (l : Nat) : nob σ l < 65536 := by
  unfold nob
  have h1 : 65535 &&& (σ 12 l ^^^ 4294967295) &&& (σ 13 l ^^^ 4294967295) ≤ 65535 &&& (σ 12 l ^^^ 4294967295) := Nat.and_le_left
  have h2 : 65535 &&& (σ 12 l ^^^ 4294967295) ≤ 65535 := Nat.and_le_left
  omega
theorem tb_ff {e : Nat} (h : e < 32) : (4294967295 : Nat).testBit e = true := by
  rw [show (4294967295 : Nat) = 2 ^ 32 - 1 from rfl, Nat.testBit_two_pow_sub_one]; simp [h]
theorem tb_f16 {e : Nat} (h : e < 16) : (65535 : Nat).testBit e = true := by
  rw [show (65535 : Nat) = 2 ^ 16 - 1 from rfl, Nat.testBit_two_pow_sub_one]; simp [h]
theorem nob_tb {σ : ST} {l e : Nat} (h : e < 16) : (nob σ l).testBit e = (!(σ 12 l).testBit e && !(σ 13 l).testBit e) := by
  unfold nob
  rw [Nat.testBit_and, Nat.testBit_and, Nat.testBit_xor, Nat.testBit_xor, tb_ff (by omega), tb_f16 h]
  simp
section LU
variable {σ : ST}
theorem wh_lt {l : Nat} (w : WF σ) (hl : l < σ 11 0) (t : Nat) : wh σ l t < 65536 := turnR_lt (w.2.2.2.1.2 l hl).1 _
theorem bl_lt (l t : Nat) : bl σ l t < 65536 := turnR_lt (nob_lt σ l) _
theorem ch_lt (l r t : Nat) : ch σ l r t < 65536 := Nat.lt_of_le_of_lt Nat.and_le_left (bl_lt l t)
theorem ld_lt {l : Nat} (w : WF σ) (hl : l < σ 11 0) : ld σ l < 1152921504606846976 := spn_lt (w.2.2.2.1.2 l hl).2.2.2.2.1
theorem dd_lt {l : Nat} (w : WF σ) (hl : l < σ 11 0) (r : Nat) : dd σ l r < 1152921504606846976 := Nat.lt_of_le_of_lt Nat.and_le_left (ld_lt w hl)
theorem wh_tb {l t e : Nat} (ht : t < 4) (he : e < 16) : (wh σ l t).testBit e = (σ 12 l).testBit (cat e t) := home_tb ht he
theorem bl_tb {l t e : Nat} (ht : t < 4) (he : e < 16) : (bl σ l t).testBit e = (!(σ 12 l).testBit (cat e t) && !(σ 13 l).testBit (cat e t)) := by
  unfold bl
  rw [home_tb ht he, nob_tb (cat_lt he t)]
/-- the model's marks against the turned picture say the same -/
theorem sno_m {l r t : Nat} (w : WF σ) (hl : l < σ 11 0) (ht : t < 4) : (σ 12 l &&& (turn (σ 3 r) t ^^^ 4294967295) = 0) = sno σ l r t := by
  apply propext
  have h1 := (w.2.2.2.1.2 l hl).1
  unfold sno
  rw [sub0 h1, sub0 (wh_lt w hl t)]
  constructor
  · intro h e he h2
    rw [wh_tb ht he] at h2
    have h3 := h (cat e t) (cat_lt he t) h2
    rw [turn_tb ht (cat_lt he t)] at h3
    have h4 : ic (cat e t) t = e := ((cat_ic t ht e he (cat e t) (cat_lt he t)).mp rfl).symm
    rw [h4] at h3
    exact h3
  · intro h e he h2
    rw [turn_tb ht he]
    apply h _ (ic_lt t he)
    rw [wh_tb ht (ic_lt t he), (cat_ic t ht (ic e t) (ic_lt t he) e he).mpr rfl]
    exact h2
/-- what the model's cellsOf lays down -/
def cof (σ : ST) (l r t w : Nat) (c : Nat) : Bool := (σ 3 r).testBit c && !(σ 13 l).testBit (cat c t) && ((σ 12 l).testBit (cat c t) == decide (w = 1))
theorem cof_0 {l r t : Nat} (ht : t < 4) : bts (cof σ l r t 0) 16 = ch σ l r t := by
  refine eq16 (bts_16 _ (Nat.le_refl _)) (ch_lt l r t) ?_
  intro e he
  unfold ch
  rw [bts_tb, Nat.testBit_and, bl_tb ht he]
  unfold cof
  simp only [he]
  cases (σ 3 r).testBit e <;> cases (σ 13 l).testBit (cat e t) <;> cases (σ 12 l).testBit (cat e t) <;> rfl
theorem cof_1 {l r t : Nat} (w : WF σ) (hl : l < σ 11 0) (ht : t < 4) (hs : sno σ l r t) : bts (cof σ l r t 1) 16 = wh σ l t := by
  refine eq16 (bts_16 _ (Nat.le_refl _)) (wh_lt w hl t) ?_
  intro e he
  have h1 := (sub0 (wh_lt w hl t)).mp hs e he
  have h2 := (and0.mp (w.2.2.2.1.2 l hl).2.2.1) (cat e t)
  rw [wh_tb ht he] at h1
  rw [bts_tb, wh_tb ht he]
  unfold cof
  simp only [he]
  revert h1 h2
  cases (σ 3 r).testBit e <;> cases (σ 13 l).testBit (cat e t) <;> cases (σ 12 l).testBit (cat e t) <;> simp
end LU
def rdLu (g : Nat → Nat → Int32) (σ : ST) : Prop := g 10 7 = nI (σ 11 0) ∧ g 10 8 = nI (σ 18 0) ∧ ∀ l, l < σ 11 0 → (∀ t, t < 4 → g 11 (l * 4 + t) = nI (wh σ l t) ∧ g 12 (l * 4 + t) = nI (bl σ l t)) ∧ g 13 l = nI (σ 13 l) ∧ g 14 l = nI (σ 14 l) ∧ g 15 l = nI (σ 15 l) ∧ g 16 l = nI (σ 16 l) ∧ g 17 l = nI (σ 17 l)
def rdLm (g : Nat → Nat → Int32) (σ : ST) : Prop := g 51 14 = nI (σ 11 0) ∧ g 51 21 = nI (σ 18 0) ∧ ∀ l, l < σ 11 0 → g 60 l = nI (σ 12 l) ∧ g 61 l = nI (σ 13 l) ∧ g 62 l = nI (σ 14 l) ∧ g 63 l = nI (σ 15 l) ∧ g 64 l = nI (σ 16 l) ∧ g 65 l = nI (σ 17 l)
/-- all that the class keeps of the state but the search and the sheets -/
def C0 (σ : ST) (g : Nat → Nat → Int32) (hj : Nat → Nat → Int64) : Prop := WF σ ∧ rdR g 3 3 4 5 6 σ ∧ rdHc g hj σ ∧ rdLu g σ
def M0 (σ : ST) (g : Nat → Nat → Int32) (hj : Nat → Nat → Int64) : Prop := WF σ ∧ rdR g 51 4 53 54 55 σ ∧ rdHm g σ ∧ rdLm g σ
section MATCH
variable {X : AX} {d : Nat} {Q : Option Value → AH → Prop} {g : Nat → Nat → Int32} {hj : Nat → Nat → Int64} {σ : ST} {l r t : Nat}
theorem c_Matches_whole (c : C0 σ g hj) (hl : l < σ 11 0) (ht : t < 4) : cwp X d m_Matches_whole [.ref 18, .int (nI l), .int (nI t)] (HP g hj) Q = Q (some (.int (nI (wh σ l t)))) (HP g hj) := by
  have w := c.1.2.2.2.1.1
  have e := ((c.2.2.2.2.2 l hl).1 t ht).1
  simp (disch := omega) only [e_Matches_whole, ↓s_Matches_whole_0, ↓s_Matches_whole_1, ↓s_Matches_whole_4, ↓s_Matches_whole_7, ↓s_Matches_whole_8, ↓s_Matches_whole_9, ↓s_Matches_whole_10, ↓s_Matches_whole_11, ↓s_Matches_whole_12, ↓s_Matches_whole_13, nI_leI, nI_ltI, nI_eq, N_z, nI_add, pk_sub, pk_mul, kL_i, kL_r, kL_d, kL_l, kL_k, kL_f, Option.toList_some, Option.toList_none, List.cons_append, List.nil_append, bI_z, N_and, N_or, N_shl, N_shr, Nat.one_mul, Nat.reduceAdd, lg_cmp_eq, L_and, L_or, bI_1, bI_0, if_true, if_false, reduceIte, N_m1x, ite_not, e]
theorem c_Matches_chipped (c : C0 σ g hj) (hl : l < σ 11 0) (hr : r < σ 2 0) (ht : t < 4) : cwp X d m_Matches_chipped [.ref 18, .int (nI l), .int (nI r), .int (nI t)] (HP g hj) Q = Q (some (.int (nI (ch σ l r t)))) (HP g hj) := by
  have w := c.1.2.2.2.1.1
  have w2 := c.1.2.1.1
  have e := ((c.2.2.2.2.2 l hl).1 t ht).2
  have e2 := (c.2.1.2 r hr).1
  simp (disch := omega) only [e_Matches_chipped, ↓s_Matches_chipped_0, ↓s_Matches_chipped_1, ↓s_Matches_chipped_4, ↓s_Matches_chipped_7, ↓s_Matches_chipped_8, ↓s_Matches_chipped_9, ↓s_Matches_chipped_10, ↓s_Matches_chipped_11, ↓s_Matches_chipped_12, ↓s_Matches_chipped_13, ↓s_Matches_chipped_14, ↓s_Matches_chipped_17, ↓s_Matches_chipped_20, ↓s_Matches_chipped_21, ↓s_Matches_chipped_22, ↓s_Matches_chipped_23, nI_leI, nI_ltI, nI_eq, N_z, nI_add, pk_sub, pk_mul, kL_i, kL_r, kL_d, kL_l, kL_k, kL_f, Option.toList_some, Option.toList_none, List.cons_append, List.nil_append, bI_z, N_and, N_or, N_shl, N_shr, Nat.one_mul, Nat.reduceAdd, lg_cmp_eq, L_and, L_or, bI_1, bI_0, if_true, if_false, reduceIte, N_m1x, ite_not, e, e2]
  rfl
theorem c_Lumps_daysOf (c : C0 σ g hj) (hl : l < σ 11 0) : cwp X (d + 1) m_Lumps_daysOf [.ref 10, .int (nI l)] (HP g hj) Q = Q (some (.long (lN (ld σ l)))) (HP g hj) := by
  have w := c.1.2.2.2.1.1
  obtain ⟨e0, e1, e2, e3, e4⟩ := c.2.2.2.2.2 l hl
  obtain ⟨f0, f1, f2, f3, f4, f5⟩ := c.1.2.2.2.1.2 l hl
  simp (disch := omega) only [e_Lumps_daysOf, ↓s_Lumps_daysOf_0, ↓s_Lumps_daysOf_1, ↓s_Lumps_daysOf_4, ↓s_Lumps_daysOf_5, ↓s_Lumps_daysOf_6, ↓s_Lumps_daysOf_7, ↓s_Lumps_daysOf_10, ↓s_Lumps_daysOf_11, ↓s_Lumps_daysOf_12, ↓s_Lumps_daysOf_15, nI_leI, nI_ltI, nI_eq, N_z, nI_add, pk_sub, pk_mul, kL_i, kL_r, kL_d, kL_l, kL_k, kL_f, Option.toList_some, Option.toList_none, List.cons_append, List.nil_append, bI_z, N_and, N_or, N_shl, N_shr, Nat.one_mul, Nat.reduceAdd, lg_cmp_eq, L_and, L_or, bI_1, bI_0, if_true, if_false, reduceIte, N_m1x, ite_not, e2, e3, c_C_daysBetween]
  rfl
theorem c_Matches_sharedDays (c : C0 σ g hj) (hl : l < σ 11 0) (hr : r < σ 2 0) : cwp X (d + 2) m_Matches_sharedDays [.ref 18, .int (nI l), .int (nI r)] (HP g hj) Q = Q (some (.long (lN (dd σ l r)))) (HP g hj) := by
  simp (disch := assumption) only [e_Matches_sharedDays, ↓s_Matches_sharedDays_0, ↓s_Matches_sharedDays_1, ↓s_Matches_sharedDays_4, ↓s_Matches_sharedDays_5, ↓s_Matches_sharedDays_8, ↓s_Matches_sharedDays_9, ↓s_Matches_sharedDays_12, ↓s_Matches_sharedDays_13, ↓s_Matches_sharedDays_16, ↓s_Matches_sharedDays_17, c_Lumps_daysOf c, c_Rings_pressDays c.1 c.2.1 c.2.2.1, nI_leI, nI_ltI, nI_eq, N_z, nI_add, pk_sub, pk_mul, kL_i, kL_r, kL_d, kL_l, kL_k, kL_f, Option.toList_some, Option.toList_none, List.cons_append, List.nil_append, bI_z, N_and, N_or, N_shl, N_shr, Nat.one_mul, Nat.reduceAdd, lg_cmp_eq, L_and, L_or, bI_1, bI_0, if_true, if_false, reduceIte, N_m1x, ite_not]
  rfl
theorem c_Matches_showsNoOther (c : C0 σ g hj) (hl : l < σ 11 0) (hr : r < σ 2 0) (ht : t < 4) : cwp X (d + 1) m_Matches_showsNoOther [.ref 18, .int (nI l), .int (nI r), .int (nI t)] (HP g hj) Q = Q (some (.int (bI (sno σ l r t)))) (HP g hj) := by
  have w2 := c.1.2.1.1
  have e2 := (c.2.1.2 r hr).1
  have h1 := wh_lt c.1 hl t
  have h2 : wh σ l t &&& (σ 3 r ^^^ 4294967295) ≤ wh σ l t := Nat.and_le_left
  simp (disch := first | assumption | omega) only [e_Matches_showsNoOther, ↓s_Matches_showsNoOther_0, ↓s_Matches_showsNoOther_1, ↓s_Matches_showsNoOther_2, ↓s_Matches_showsNoOther_3, ↓s_Matches_showsNoOther_6, ↓s_Matches_showsNoOther_7, ↓s_Matches_showsNoOther_10, ↓s_Matches_showsNoOther_13, ↓s_Matches_showsNoOther_14, ↓s_Matches_showsNoOther_15, ↓s_Matches_showsNoOther_16, ↓s_Matches_showsNoOther_17, ↓s_Matches_showsNoOther_18, ↓s_Matches_showsNoOther_21, ↓s_Matches_showsNoOther_22, ↓s_Matches_showsNoOther_25, ↓s_Matches_showsNoOther_26_0, ↓s_Matches_showsNoOther_26_1, ↓s_Matches_showsNoOther_26_b, c_Matches_whole c, nI_leI, nI_ltI, nI_eq, N_z, nI_add, pk_sub, pk_mul, kL_i, kL_r, kL_d, kL_l, kL_k, kL_f, Option.toList_some, Option.toList_none, List.cons_append, List.nil_append, bI_z, N_and, N_or, N_shl, N_shr, Nat.one_mul, Nat.reduceAdd, lg_cmp_eq, L_and, L_or, bI_1, bI_0, if_true, if_false, reduceIte, N_m1x, ite_not, e2]
  rw [ite_b (P := fun z => Q (some (.int z)) (HP g hj))]
theorem c_Matches_canBe (c : C0 σ g hj) (hl : l < σ 11 0) (hr : r < σ 2 0) (ht : t < 4) : cwp X (d + 3) m_Matches_canBe [.ref 18, .int (nI l), .int (nI r), .int (nI t)] (HP g hj) Q = Q (some (.int (bI (cb σ l r t)))) (HP g hj) := by
  have h1 := dd_lt c.1 hl r
  simp (disch := first | assumption | omega) only [e_Matches_canBe, ↓s_Matches_canBe_0, ↓s_Matches_canBe_1, ↓s_Matches_canBe_2, ↓s_Matches_canBe_3, ↓s_Matches_canBe_4, ↓s_Matches_canBe_7, ↓s_Matches_canBe_10, ↓s_Matches_canBe_11, ↓s_Matches_canBe_12, ↓s_Matches_canBe_13, ↓s_Matches_canBe_16, ↓s_Matches_canBe_17, ↓s_Matches_canBe_18, ↓s_Matches_canBe_21, ↓s_Matches_canBe_22, ↓s_Matches_canBe_25, ↓s_Matches_canBe_26_0, ↓s_Matches_canBe_26_1, ↓s_Matches_canBe_26_b, c_Matches_showsNoOther c, c_Matches_sharedDays c, nI_leI, nI_ltI, nI_eq, N_z, nI_add, pk_sub, pk_mul, kL_i, kL_r, kL_d, kL_l, kL_k, kL_f, Option.toList_some, Option.toList_none, List.cons_append, List.nil_append, bI_z, N_and, N_or, N_shl, N_shr, Nat.one_mul, Nat.reduceAdd, lg_cmp_eq, L_and, L_or, bI_1, bI_0, if_true, if_false, reduceIte, N_m1x, ite_not, L_inj]
  by_cases h1 : sno σ l r t
  · rw [if_pos h1]
    by_cases h2 : dd σ l r = 0
    · rw [if_pos h2, bI_f (fun z => (cb_eq.mp z).2 h2)]
    · rw [if_neg h2, bI_t (cb_eq.mpr ⟨h1, h2⟩)]
  · rw [if_neg h1, bI_f (fun z => h1 (cb_eq.mp z).1)]
theorem c_M_canBe (c : M0 σ g hj) (hl : l < σ 11 0) (hr : r < σ 2 0) (ht : t < 4) : cwp X (d + 3) m_M_canBe [.ref 51, .int (nI l), .int (nI r), .int (nI t)] (HP g hj) Q = Q (some (.int (bI (cb σ l r t)))) (HP g hj) := by
  have h1 := dd_lt c.1 hl r
  have w := c.1.2.2.2.1.1
  have w2 := c.1.2.1.1
  have e2 := (c.2.1.2 r hr).1
  obtain ⟨e0, e1, e3, e4, e5⟩ := c.2.2.2.2.2 l hl
  obtain ⟨f0, f1, f2, f3, f4, f5⟩ := c.1.2.2.2.1.2 l hl
  have f6 := (c.1.2.1.2 r hr).1
  have h2 : σ 12 l &&& (turn (σ 3 r) t ^^^ 4294967295) ≤ σ 12 l := Nat.and_le_left
  simp (disch := first | assumption | omega) only [e_M_canBe, ↓s_M_canBe_0, ↓s_M_canBe_1, ↓s_M_canBe_4, ↓s_M_canBe_5, ↓s_M_canBe_6, ↓s_M_canBe_7, ↓s_M_canBe_10, ↓s_M_canBe_11, ↓s_M_canBe_12, ↓s_M_canBe_13, ↓s_M_canBe_16, ↓s_M_canBe_17, ↓s_M_canBe_18, ↓s_M_canBe_19, ↓s_M_canBe_22, ↓s_M_canBe_23, ↓s_M_canBe_26, ↓s_M_canBe_27, ↓s_M_canBe_28, ↓s_M_canBe_29, ↓s_M_canBe_32, ↓s_M_canBe_33, ↓s_M_canBe_34, ↓s_M_canBe_37, ↓s_M_canBe_38, ↓s_M_canBe_39, ↓s_M_canBe_42, ↓s_M_canBe_43, ↓s_M_canBe_44, ↓s_M_canBe_45, ↓s_M_canBe_48, ↓s_M_canBe_49, ↓s_M_canBe_52, ↓s_M_canBe_53_0, ↓s_M_canBe_53_1, ↓s_M_canBe_53_b, c_M_turnedBits, c_M_span, c_M_daysOf c.1 c.2.1 c.2.2.1, nI_leI, nI_ltI, nI_eq, N_z, nI_add, pk_sub, pk_mul, kL_i, kL_r, kL_d, kL_l, kL_k, kL_f, Option.toList_some, Option.toList_none, List.cons_append, List.nil_append, bI_z, N_and, N_or, N_shl, N_shr, Nat.one_mul, Nat.reduceAdd, lg_cmp_eq, L_and, L_or, bI_1, bI_0, if_true, if_false, reduceIte, N_m1x, ite_not, show spn (σ 14 l) (σ 15 l) &&& dys σ r = dd σ l r from rfl, L_inj, e0, e2, e3, e4, sno_m c.1 hl ht]
  by_cases h1 : sno σ l r t
  · rw [if_pos h1]
    by_cases h2 : dd σ l r = 0
    · rw [if_pos h2, bI_f (fun z => (cb_eq.mp z).2 h2)]
    · rw [if_neg h2, bI_t (cb_eq.mpr ⟨h1, h2⟩)]
  · rw [if_neg h1, bI_f (fun z => h1 (cb_eq.mp z).1)]
theorem l_M_cellsOf {u : Nat} (c : M0 σ g hj) (hl : l < σ 11 0) (hr : r < σ 2 0) (ht : t < 4) (hu : u < 2) : ∀ (n i : Nat) (v7 v8 : Value), i + n = 16 → wp X (d + 2) m_M_cellsOf 6 [.ref 51, .int (nI l), .int (nI r), .int (nI t), .int (nI u), .int (nI (bts (cof σ l r t u) i)), .int (nI i), v7, v8] [] (HP g hj) Q = Q (some (.int (nI (bts (cof σ l r t u) 16)))) (HP g hj)
  | 0, i, v7, v8, hi => by
    have : i = 16 := by omega
    subst this
    rw [s_M_cellsOf_6]
    simp (disch := omega) only [↓s_M_cellsOf_8, ↓s_M_cellsOf_10, ↓s_M_cellsOf_105, ↓s_M_cellsOf_107, nI_leI, nI_ltI, nI_eq, N_z, nI_add, pk_sub, pk_mul, kL_i, kL_r, kL_d, kL_l, kL_k, kL_f, Option.toList_some, Option.toList_none, List.cons_append, List.nil_append, bI_z, N_and, N_or, N_shl, N_shr, Nat.one_mul, Nat.reduceAdd, lg_cmp_eq, L_and, L_or, bI_1, bI_0, if_true, if_false, reduceIte, N_m1x, ite_not, Nat.le_refl]
  | n + 1, i, v7, v8, hi => by
    have w := c.1.2.2.2.1.1
    have w2 := c.1.2.1.1
    have e2 := (c.2.1.2 r hr).1
    obtain ⟨e0, e1, e3, e4, e5⟩ := c.2.2.2.2.2 l hl
    obtain ⟨f0, f1, f2, f3, f4, f5⟩ := c.1.2.2.2.1.2 l hl
    have f6 := (c.1.2.1.2 r hr).1
    have hc := cat_lt (show i < 16 by omega) t
    have e : bts (cof σ l r t u) (i + 1) = bts (cof σ l r t u) i ||| (if cof σ l r t u i = true then 2 ^ i else 0) := rfl
    rw [s_M_cellsOf_6]
    have K : ∀ b : Bool, cof σ l r t u i = b → wp X (d + 2) m_M_cellsOf 79 [.ref 51, .int (nI l), .int (nI r), .int (nI t), .int (nI u), .int (nI (bts (cof σ l r t u) i)), .int (nI i), .int (nI (cat i t)), v8] [.int (bI (b = true))] (HP g hj) Q = Q (some (.int (nI (bts (cof σ l r t u) 16)))) (HP g hj) := by
      intro b hb
      rw [hb] at e
      simp (disch := omega) only [↓s_M_cellsOf_79, ↓s_M_cellsOf_81, ↓s_M_cellsOf_83, ↓s_M_cellsOf_85, ↓s_M_cellsOf_88, ↓s_M_cellsOf_89, ↓s_M_cellsOf_91, ↓s_M_cellsOf_92, ↓s_M_cellsOf_95, ↓s_M_cellsOf_96, ↓s_M_cellsOf_97, ↓s_M_cellsOf_99, ↓s_M_cellsOf_102, nI_leI, nI_ltI, nI_eq, N_z, nI_add, pk_sub, pk_mul, kL_i, kL_r, kL_d, kL_l, kL_k, kL_f, Option.toList_some, Option.toList_none, List.cons_append, List.nil_append, bI_z, N_and, N_or, N_shl, N_shr, Nat.one_mul, Nat.reduceAdd, lg_cmp_eq, L_and, L_or, bI_1, bI_0, if_true, if_false, reduceIte, N_m1x, ite_not]
      cases b
      · simp only [Bool.false_eq_true, not_false_eq_true, if_true, if_false, Nat.or_zero] at e ⊢
        rw [← e]
        exact l_M_cellsOf c hl hr ht hu n (i + 1) _ _ (by omega)
      · simp only [not_true_eq_false, if_true, if_false] at e ⊢
        rw [← e]
        exact l_M_cellsOf c hl hr ht hu n (i + 1) _ _ (by omega)
    have K0 := K false
    have K1 := K true
    simp only [bI, if_true, Bool.false_eq_true, if_false] at K0 K1
    simp (disch := omega) only [↓s_M_cellsOf_8, ↓s_M_cellsOf_10, ↓s_M_cellsOf_13, ↓s_M_cellsOf_15, ↓s_M_cellsOf_16, ↓s_M_cellsOf_19, ↓s_M_cellsOf_21, ↓s_M_cellsOf_22, ↓s_M_cellsOf_25, ↓s_M_cellsOf_26, ↓s_M_cellsOf_27, ↓s_M_cellsOf_29, ↓s_M_cellsOf_32, ↓s_M_cellsOf_35, ↓s_M_cellsOf_36, ↓s_M_cellsOf_39, ↓s_M_cellsOf_40, ↓s_M_cellsOf_41, ↓s_M_cellsOf_43, ↓s_M_cellsOf_46, ↓s_M_cellsOf_49, ↓s_M_cellsOf_50, ↓s_M_cellsOf_53, ↓s_M_cellsOf_54, ↓s_M_cellsOf_55, ↓s_M_cellsOf_57, ↓s_M_cellsOf_60, ↓s_M_cellsOf_62, ↓s_M_cellsOf_63, ↓s_M_cellsOf_66, ↓s_M_cellsOf_67, ↓s_M_cellsOf_70, ↓s_M_cellsOf_71, ↓s_M_cellsOf_74, ↓s_M_cellsOf_75, ↓s_M_cellsOf_78, nI_leI, nI_ltI, nI_eq, N_z, nI_add, pk_sub, pk_mul, kL_i, kL_r, kL_d, kL_l, kL_k, kL_f, Option.toList_some, Option.toList_none, List.cons_append, List.nil_append, bI_z, N_and, N_or, N_shl, N_shr, Nat.one_mul, Nat.reduceAdd, lg_cmp_eq, L_and, L_or, bI_1, bI_0, if_true, if_false, reduceIte, N_m1x, ite_not, c_M_cellAt, c_M_has, e0, e1, e2]
    rw [if_neg (by omega)]
    by_cases p1 : (σ 3 r).testBit i = true
    · rw [if_pos p1]
      by_cases p2 : (σ 13 l).testBit (cat i t) = true
      · rw [if_pos p2]
        exact K0 (by unfold cof; simp [p1, p2])
      · rw [if_neg p2]
        rcases (show u = 0 ∨ u = 1 by omega) with rfl | rfl
        · rw [if_neg (show ¬ (0 : Nat) = 1 by omega)]
          by_cases p3 : (σ 12 l).testBit (cat i t) = true
          · rw [if_pos p3]
            exact K0 (by unfold cof; simp [p1, p2, p3])
          · rw [if_neg p3]
            exact K1 (by unfold cof; simp [p1, p2, p3])
        · rw [if_pos rfl]
          by_cases p3 : (σ 12 l).testBit (cat i t) = true
          · rw [if_pos p3]
            exact K1 (by unfold cof; simp [p1, p2, p3])
          · rw [if_neg p3]
            exact K0 (by unfold cof; simp [p1, p2, p3])
    · rw [if_neg p1]
      exact K0 (by unfold cof; simp [p1])
theorem c_M_cellsOf0 (c : M0 σ g hj) (hl : l < σ 11 0) (hr : r < σ 2 0) (ht : t < 4) : cwp X (d + 2) m_M_cellsOf [.ref 51, .int (nI l), .int (nI r), .int (nI t), .int (nI 0)] (HP g hj) Q = Q (some (.int (nI (ch σ l r t)))) (HP g hj) := by
  simp only [e_M_cellsOf, ↓s_M_cellsOf_0, ↓s_M_cellsOf_1, ↓s_M_cellsOf_3, ↓s_M_cellsOf_4, kL_i, kL_d, kL_r]
  rw [← cof_0 ht]
  exact l_M_cellsOf c hl hr ht (by omega) 16 0 _ _ rfl
theorem c_M_cellsOf1 (c : M0 σ g hj) (hl : l < σ 11 0) (hr : r < σ 2 0) (ht : t < 4) (hs : sno σ l r t) : cwp X (d + 2) m_M_cellsOf [.ref 51, .int (nI l), .int (nI r), .int (nI t), .int (nI 1)] (HP g hj) Q = Q (some (.int (nI (wh σ l t)))) (HP g hj) := by
  simp only [e_M_cellsOf, ↓s_M_cellsOf_0, ↓s_M_cellsOf_1, ↓s_M_cellsOf_3, ↓s_M_cellsOf_4, kL_i, kL_d, kL_r]
  rw [← cof_1 c.1 hl ht hs]
  exact l_M_cellsOf c hl hr ht (by omega) 16 0 _ _ rfl
end MATCH
