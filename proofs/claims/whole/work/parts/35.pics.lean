/-! pictures: bits of turned ones; how many bits -/
def ic (e t : Nat) : Nat := cat e ((4 - t) % 4)
theorem cat_ic : ∀ t, t < 4 → ∀ c, c < 16 → ∀ e, e < 16 → (cat c t = e ↔ c = ic e t) := by decide +kernel
theorem ic_lt {e : Nat} (t : Nat) (h : e < 16) : ic e t < 16 := cat_lt h _
theorem tbn_tb (a t e : Nat) (ht : t < 4) (he : e < 16) : ∀ n, n ≤ 16 → (tbn a t n).testBit e = (decide (ic e t < n) && a.testBit (ic e t))
  | 0, _ => by simp [tbn]
  | n + 1, hn => by
    have ih := tbn_tb a t e ht he n (by omega)
    have hk := cat_ic t ht n (by omega) e he
    unfold tbn
    rw [Nat.testBit_or, ih]
    by_cases h1 : n = ic e t
    · subst h1
      have h2 : cat (ic e t) t = e := hk.mpr rfl
      by_cases hb : a.testBit (ic e t) = true
      · rw [if_pos hb, h2, Nat.testBit_two_pow_self]
        simp [hb]
      · rw [if_neg hb]
        simp [hb]
    · have h2 : ¬ cat n t = e := fun z => h1 (hk.mp z)
      have h3 : (if a.testBit n = true then 2 ^ cat n t else 0).testBit e = false := by
        split
        · rw [Nat.testBit_two_pow]
          simp [h2]
        · simp
      rw [h3]
      by_cases h4 : ic e t < n
      · simp [h4, show ic e t < n + 1 by omega]
      · simp [h4, show ¬ ic e t < n + 1 by omega]
theorem tb_big {a i : Nat} (h : a < 65536) (hi : 16 ≤ i) : a.testBit i = false := Nat.testBit_lt_two_pow (Nat.lt_of_lt_of_le h (by rw [show 65536 = 2 ^ 16 from rfl]; exact Nat.pow_le_pow_right (by omega) hi))
theorem turn_tb {a t e : Nat} (ht : t < 4) (he : e < 16) : (turn a t).testBit e = a.testBit (ic e t) := by
  unfold turn
  rw [tbn_tb a t e ht he 16 (Nat.le_refl _)]
  simp [ic_lt t he]
theorem eq16 {a b : Nat} (ha : a < 65536) (hb : b < 65536) (h : ∀ e, e < 16 → a.testBit e = b.testBit e) : a = b := by
  apply Nat.eq_of_testBit_eq
  intro i
  by_cases hi : i < 16
  · exact h i hi
  · rw [tb_big ha (by omega), tb_big hb (by omega)]
def icR (e : Nat) : Nat → Nat
  | 0 => e
  | n + 1 => icR (ic e 1) n
theorem icR_ic : ∀ t, t < 4 → ∀ e, e < 16 → icR e t = ic e t := by decide +kernel
theorem turnR_icR {a : Nat} : ∀ (n e : Nat), e < 16 → (turnR a n).testBit e = a.testBit (icR e n)
  | 0, e, he => rfl
  | n + 1, e, he => by
    show (turn (turnR a n) 1).testBit e = _
    rw [turn_tb (by omega) he, turnR_icR n (ic e 1) (ic_lt 1 he)]
    rfl
theorem turnR_tb {a t e : Nat} (ht : t < 4) (he : e < 16) : (turnR a t).testBit e = a.testBit (ic e t) := by
  rw [turnR_icR t e he, icR_ic t ht e he]
theorem turnR_turn {a t : Nat} (ha : a < 65536) (ht : t < 4) : turnR a t = turn a t :=
  eq16 (turnR_lt ha t) (turn_lt a t) (fun e he => by rw [turnR_tb ht he, turn_tb ht he])
theorem ic_home : ∀ t, t < 4 → ∀ e, e < 16 → ic e ((4 - t) % 4) = cat e t := by decide +kernel
theorem home_tb {a t e : Nat} (ht : t < 4) (he : e < 16) : (turnR a ((4 - t) % 4)).testBit e = a.testBit (cat e t) := by
  rw [turnR_tb (Nat.mod_lt _ (by omega)) he, ic_home t ht e he]
/-- no bit of a is outside b -/
theorem sub0 {a b : Nat} (ha : a < 65536) : (a &&& (b ^^^ 4294967295) = 0) ↔ ∀ e, e < 16 → a.testBit e = true → b.testBit e = true := by
  constructor
  · intro h e he h1
    have h2 : (a &&& (b ^^^ 4294967295)).testBit e = false := by rw [h]; exact Nat.zero_testBit e
    rw [Nat.testBit_and, Nat.testBit_xor, h1, show (4294967295 : Nat) = 2 ^ 32 - 1 from rfl, Nat.testBit_two_pow_sub_one] at h2
    simp [show e < 32 by omega] at h2
    exact h2
  · intro h
    apply Nat.eq_of_testBit_eq
    intro i
    rw [Nat.zero_testBit, Nat.testBit_and, Nat.testBit_xor, show (4294967295 : Nat) = 2 ^ 32 - 1 from rfl, Nat.testBit_two_pow_sub_one]
    by_cases hi : i < 16
    · by_cases h1 : a.testBit i = true
      · simp [h1, h i hi h1, show i < 32 by omega]
      · simp [h1]
    · rw [tb_big ha (by omega)]
      simp
theorem and0 {a b : Nat} : (a &&& b = 0) ↔ ∀ e, a.testBit e = true → b.testBit e = false := by
  constructor
  · intro h e h1
    have h2 : (a &&& b).testBit e = false := by rw [h]; exact Nat.zero_testBit e
    rw [Nat.testBit_and, h1] at h2
    simpa using h2
  · intro h
    apply Nat.eq_of_testBit_eq
    intro i
    rw [Nat.zero_testBit, Nat.testBit_and]
    by_cases h1 : a.testBit i = true
    · simp [h1, h i h1]
    · simp [h1]
theorem N_ushr {a k : Nat} (ha : a < 4294967296) (hk : k < 32) : ((nI a).toUInt32 >>> ((nI k).toUInt32 &&& Int32.toUInt32 31)).toInt32 = nI (a / 2 ^ k) := pk_ushrN ha _ k (by
  have : ∀ n, n < 32 → (((nI n).toUInt32 &&& Int32.toUInt32 31).toBitVec % 32).toNat = n := by decide +kernel
  exact this k hk)
def bcA (a : Nat) : Nat := a - (a / 2 ^ 1 &&& 1431655765)
def bcB (a : Nat) : Nat := (a &&& 858993459) + (a / 2 ^ 2 &&& 858993459)
def bcC (a : Nat) : Nat := a + a / 2 ^ 4 &&& 252645135
def bcD (a : Nat) : Nat := a + a / 2 ^ 8
def bcE (a : Nat) : Nat := a + a / 2 ^ 16 &&& 63
def frc {β : Type} (x : Nat) (f : Nat → β) : β := Nat.rec (f 0) (fun n _ => f (n + 1)) x
theorem frc_eq {β : Type} (x : Nat) (f : Nat → β) : frc x f = f x := by cases x <;> rfl
def bcT (a : Nat) : Bool := frc a fun a => frc (bcA a) fun b => frc (bcB b) fun c => frc (bcC c) fun d => frc (bcD d) fun e => Nat.beq (bcE e) (pcn a 16)
def bcR (i : Nat) : Nat → Bool
  | 0 => true
  | n + 1 => bcT (256 * i + n) && bcR i n
theorem bcR_ok (i : Nat) : ∀ n, bcR i n = true → ∀ j, j < n → bcT (256 * i + j) = true
  | 0, _, j, hj => by omega
  | n + 1, h, j, hj => by
    unfold bcR at h
    simp only [Bool.and_eq_true] at h
    by_cases e : j = n
    · subst e; exact h.1
    · exact bcR_ok i n h.2 j (by omega)
def bcRR (i : Nat) : Bool := bcR i 256
theorem bc_0 : (List.range' 0 16).all bcRR = true := by decide +kernel
theorem bc_1 : (List.range' 16 16).all bcRR = true := by decide +kernel
theorem bc_2 : (List.range' 32 16).all bcRR = true := by decide +kernel
theorem bc_3 : (List.range' 48 16).all bcRR = true := by decide +kernel
theorem bc_4 : (List.range' 64 16).all bcRR = true := by decide +kernel
theorem bc_5 : (List.range' 80 16).all bcRR = true := by decide +kernel
theorem bc_6 : (List.range' 96 16).all bcRR = true := by decide +kernel
theorem bc_7 : (List.range' 112 16).all bcRR = true := by decide +kernel
theorem bc_8 : (List.range' 128 16).all bcRR = true := by decide +kernel
theorem bc_9 : (List.range' 144 16).all bcRR = true := by decide +kernel
theorem bc_10 : (List.range' 160 16).all bcRR = true := by decide +kernel
theorem bc_11 : (List.range' 176 16).all bcRR = true := by decide +kernel
theorem bc_12 : (List.range' 192 16).all bcRR = true := by decide +kernel
theorem bc_13 : (List.range' 208 16).all bcRR = true := by decide +kernel
theorem bc_14 : (List.range' 224 16).all bcRR = true := by decide +kernel
theorem bc_15 : (List.range' 240 16).all bcRR = true := by decide +kernel
theorem bc_i {f : Nat → Bool} {s n i : Nat} (h : (List.range' s n).all f = true) (h1 : s ≤ i) (h2 : i < s + n) : f i = true := by
  rw [List.all_eq_true] at h
  exact h i (List.mem_range'_1.mpr ⟨h1, h2⟩)
theorem bc_ok {a : Nat} (ha : a < 65536) : bcE (bcD (bcC (bcB (bcA a)))) = pcn a 16 := by
  have hr : bcRR (a / 256) = true := by
    have hi : a / 256 < 256 := by omega
    generalize a / 256 = i at hi
    by_cases h0 : i < 16
    · exact bc_i bc_0 (by omega) (by omega)
    by_cases h1 : i < 32
    · exact bc_i bc_1 (by omega) (by omega)
    by_cases h2 : i < 48
    · exact bc_i bc_2 (by omega) (by omega)
    by_cases h3 : i < 64
    · exact bc_i bc_3 (by omega) (by omega)
    by_cases h4 : i < 80
    · exact bc_i bc_4 (by omega) (by omega)
    by_cases h5 : i < 96
    · exact bc_i bc_5 (by omega) (by omega)
    by_cases h6 : i < 112
    · exact bc_i bc_6 (by omega) (by omega)
    by_cases h7 : i < 128
    · exact bc_i bc_7 (by omega) (by omega)
    by_cases h8 : i < 144
    · exact bc_i bc_8 (by omega) (by omega)
    by_cases h9 : i < 160
    · exact bc_i bc_9 (by omega) (by omega)
    by_cases h10 : i < 176
    · exact bc_i bc_10 (by omega) (by omega)
    by_cases h11 : i < 192
    · exact bc_i bc_11 (by omega) (by omega)
    by_cases h12 : i < 208
    · exact bc_i bc_12 (by omega) (by omega)
    by_cases h13 : i < 224
    · exact bc_i bc_13 (by omega) (by omega)
    by_cases h14 : i < 240
    · exact bc_i bc_14 (by omega) (by omega)
    by_cases h15 : i < 256
    · exact bc_i bc_15 (by omega) (by omega)
    omega
  have h1 := bcR_ok (a / 256) 256 hr (a % 256) (by omega)
  rw [show 256 * (a / 256) + a % 256 = a by omega] at h1
  unfold bcT at h1
  simp only [frc_eq] at h1
  exact Nat.eq_of_beq_eq_true h1
section BC
variable {X : AX} {d : Nat} {h : AH} {Q : Option Value → AH → Prop}
theorem c_JI_bitCount {a : Nat} (ha : a < 65536) : cwp X d m_JI_bitCount [.int (nI a)] h Q = Q (some (.int (nI (pcn a 16)))) h := by
  have l1 : a / 2 ^ 1 &&& 1431655765 ≤ a := Nat.le_trans Nat.and_le_left (Nat.div_le_self _ _)
  have u1 : bcA a ≤ a := Nat.sub_le _ _
  have u2 : bcB (bcA a) < 1000000 := by
    have z1 : bcA a &&& 858993459 ≤ bcA a := Nat.and_le_left
    have z2 : bcA a / 2 ^ 2 &&& 858993459 ≤ bcA a / 2 ^ 2 := Nat.and_le_left
    unfold bcB
    omega
  have u3 : bcC (bcB (bcA a)) < 3000000 := by
    have z1 : bcB (bcA a) + bcB (bcA a) / 2 ^ 4 &&& 252645135 ≤ bcB (bcA a) + bcB (bcA a) / 2 ^ 4 := Nat.and_le_left
    unfold bcC
    omega
  have u4 : bcD (bcC (bcB (bcA a))) < 10000000 := by unfold bcD; omega
  simp (disch := omega) only [e_JI_bitCount, ↓s_JI_bitCount_0, ↓s_JI_bitCount_1, ↓s_JI_bitCount_2, ↓s_JI_bitCount_3, ↓s_JI_bitCount_4, ↓s_JI_bitCount_7, ↓s_JI_bitCount_8, ↓s_JI_bitCount_9, nI_leI, nI_ltI, nI_eq, N_z, nI_add, pk_sub, pk_mul, kL_i, kL_r, kL_d, kL_l, kL_k, kL_f, Option.toList_some, Option.toList_none, List.cons_append, List.nil_append, bI_z, N_and, N_or, N_shl, N_shr, Nat.one_mul, Nat.reduceAdd, N_ushr]
  rw [show a - (a / 2 ^ 1 &&& 1431655765) = bcA a from rfl]
  simp (disch := omega) only [↓s_JI_bitCount_10, ↓s_JI_bitCount_11, ↓s_JI_bitCount_14, ↓s_JI_bitCount_15, ↓s_JI_bitCount_16, ↓s_JI_bitCount_17, ↓s_JI_bitCount_18, ↓s_JI_bitCount_21, ↓s_JI_bitCount_22, ↓s_JI_bitCount_23, nI_leI, nI_ltI, nI_eq, N_z, nI_add, pk_sub, pk_mul, kL_i, kL_r, kL_d, kL_l, kL_k, kL_f, Option.toList_some, Option.toList_none, List.cons_append, List.nil_append, bI_z, N_and, N_or, N_shl, N_shr, Nat.one_mul, Nat.reduceAdd, N_ushr]
  rw [show (bcA a &&& 858993459) + (bcA a / 2 ^ 2 &&& 858993459) = bcB (bcA a) from rfl]
  simp (disch := omega) only [↓s_JI_bitCount_24, ↓s_JI_bitCount_25, ↓s_JI_bitCount_26, ↓s_JI_bitCount_27, ↓s_JI_bitCount_28, ↓s_JI_bitCount_29, ↓s_JI_bitCount_32, ↓s_JI_bitCount_33, nI_leI, nI_ltI, nI_eq, N_z, nI_add, pk_sub, pk_mul, kL_i, kL_r, kL_d, kL_l, kL_k, kL_f, Option.toList_some, Option.toList_none, List.cons_append, List.nil_append, bI_z, N_and, N_or, N_shl, N_shr, Nat.one_mul, Nat.reduceAdd, N_ushr]
  rw [show (bcB (bcA a) + bcB (bcA a) / 2 ^ 4 &&& 252645135) = bcC (bcB (bcA a)) from rfl]
  simp (disch := omega) only [↓s_JI_bitCount_34, ↓s_JI_bitCount_35, ↓s_JI_bitCount_36, ↓s_JI_bitCount_38, ↓s_JI_bitCount_39, ↓s_JI_bitCount_40, nI_leI, nI_ltI, nI_eq, N_z, nI_add, pk_sub, pk_mul, kL_i, kL_r, kL_d, kL_l, kL_k, kL_f, Option.toList_some, Option.toList_none, List.cons_append, List.nil_append, bI_z, N_and, N_or, N_shl, N_shr, Nat.one_mul, Nat.reduceAdd, N_ushr]
  rw [show bcC (bcB (bcA a)) + bcC (bcB (bcA a)) / 2 ^ 8 = bcD (bcC (bcB (bcA a))) from rfl]
  simp (disch := omega) only [↓s_JI_bitCount_41, ↓s_JI_bitCount_42, ↓s_JI_bitCount_43, ↓s_JI_bitCount_45, ↓s_JI_bitCount_46, ↓s_JI_bitCount_47, ↓s_JI_bitCount_48, ↓s_JI_bitCount_49, ↓s_JI_bitCount_51, ↓s_JI_bitCount_52, nI_leI, nI_ltI, nI_eq, N_z, nI_add, pk_sub, pk_mul, kL_i, kL_r, kL_d, kL_l, kL_k, kL_f, Option.toList_some, Option.toList_none, List.cons_append, List.nil_append, bI_z, N_and, N_or, N_shl, N_shr, Nat.one_mul, Nat.reduceAdd, N_ushr]
  rw [show (bcD (bcC (bcB (bcA a))) + bcD (bcC (bcB (bcA a))) / 2 ^ 16 &&& 63) = bcE (bcD (bcC (bcB (bcA a)))) from rfl, bc_ok ha]
end BC
