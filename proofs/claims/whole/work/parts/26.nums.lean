/-! numbers: nI and lN through the operations -/
theorem N_and (a b : Nat) : nI a &&& nI b = nI (a &&& b) := by
  apply Int32.toBitVec_inj.1
  show BitVec.ofNat 32 a &&& BitVec.ofNat 32 b = BitVec.ofNat 32 (a &&& b)
  apply BitVec.eq_of_getLsbD_eq
  intro i hi
  simp [hi]
theorem N_or (a b : Nat) : nI a ||| nI b = nI (a ||| b) := by
  apply Int32.toBitVec_inj.1
  show BitVec.ofNat 32 a ||| BitVec.ofNat 32 b = BitVec.ofNat 32 (a ||| b)
  apply BitVec.eq_of_getLsbD_eq
  intro i hi
  simp [hi]
theorem N_xor (a b : Nat) : nI a ^^^ nI b = nI (a ^^^ b) := by
  apply Int32.toBitVec_inj.1
  show BitVec.ofNat 32 a ^^^ BitVec.ofNat 32 b = BitVec.ofNat 32 (a ^^^ b)
  apply BitVec.eq_of_getLsbD_eq
  intro i hi
  simp [hi]
theorem N_m1 : (-1 : Int32) = nI 4294967295 := by decide
theorem N_mod (a : Nat) : nI a = nI (a % 4294967296) := by
  apply Int32.toBitVec_inj.1
  show BitVec.ofNat 32 a = BitVec.ofNat 32 (a % 4294967296)
  apply BitVec.eq_of_toNat_eq
  simp
theorem N_smod : ∀ k, k < 32 → ((nI k &&& 31).toBitVec.smod 32).toNat = k := by decide +kernel
theorem N_shl {k : Nat} (a : Nat) (hk : k < 32) : nI a <<< (nI k &&& 31) = nI (a * 2 ^ k) := by
  apply Int32.toBitVec_inj.mp
  apply BitVec.eq_of_toNat_eq
  rw [pk_shl _ _ k (N_smod k hk)]
  show (BitVec.ofNat 32 a).toNat * 2 ^ k % 2 ^ 32 = (BitVec.ofNat 32 (a * 2 ^ k)).toNat
  rw [BitVec.toNat_ofNat, BitVec.toNat_ofNat, Nat.mod_mul_mod]
theorem N_shr {a k : Nat} (ha : a < 2147483648) (hk : k < 32) : nI a >>> (nI k &&& 31) = nI (a / 2 ^ k) := pk_shrN ha _ k (N_smod k hk)
theorem N_tn {n : Nat} (h : n < 4294967296) : (nI n).toBitVec.toNat = n := Nat.mod_eq_of_lt h
theorem N_of (x : Int32) : ∃ n, n < 4294967296 ∧ x = nI n := ⟨x.toBitVec.toNat, x.toBitVec.isLt, by
  apply Int32.toBitVec_inj.mp
  apply BitVec.eq_of_toNat_eq
  show _ = (BitVec.ofNat 32 _).toNat
  rw [BitVec.toNat_ofNat]
  exact (Nat.mod_eq_of_lt x.toBitVec.isLt).symm⟩
theorem N_inj {a b : Nat} (ha : a < 4294967296) (hb : b < 4294967296) : nI a = nI b ↔ a = b := by
  constructor
  · intro h
    have := congrArg (fun z : Int32 => z.toBitVec.toNat) h
    simpa [N_tn ha, N_tn hb] using this
  · intro h
    rw [h]
theorem N_z {a : Nat} (ha : a < 4294967296) : nI a = 0 ↔ a = 0 := by
  rw [show (0 : Int32) = nI 0 from rfl]
  exact N_inj ha (by omega)
theorem L_and (a b : Nat) : lN a &&& lN b = lN (a &&& b) := by
  apply Int64.toBitVec_inj.1
  show BitVec.ofNat 64 a &&& BitVec.ofNat 64 b = BitVec.ofNat 64 (a &&& b)
  apply BitVec.eq_of_getLsbD_eq
  intro i hi
  simp [hi]
theorem L_or (a b : Nat) : lN a ||| lN b = lN (a ||| b) := by
  apply Int64.toBitVec_inj.1
  show BitVec.ofNat 64 a ||| BitVec.ofNat 64 b = BitVec.ofNat 64 (a ||| b)
  apply BitVec.eq_of_getLsbD_eq
  intro i hi
  simp [hi]
theorem L_cnt : ∀ k, k < 64 → (((nI k).toInt64 &&& 63).toBitVec.smod 64).toNat = k := by decide +kernel
theorem L_tn {n : Nat} (h : n < 18446744073709551616) : (lN n).toBitVec.toNat = n := Nat.mod_eq_of_lt h
theorem L_inj {a b : Nat} (ha : a < 18446744073709551616) (hb : b < 18446744073709551616) : lN a = lN b ↔ a = b := by
  constructor
  · intro h
    have := congrArg (fun z : Int64 => z.toBitVec.toNat) h
    simpa [L_tn ha, L_tn hb] using this
  · intro h
    rw [h]
theorem L_shl {k : Nat} (a : Nat) (hk : k < 64) : lN a <<< ((nI k).toInt64 &&& 63) = lN (a * 2 ^ k) := by
  apply Int64.toBitVec_inj.mp
  apply BitVec.eq_of_toNat_eq
  show ((BitVec.ofNat 64 a) <<< (((nI k).toInt64 &&& 63).toBitVec.smod 64).toNat).toNat = (BitVec.ofNat 64 (a * 2 ^ k)).toNat
  rw [L_cnt k hk, BitVec.toNat_shiftLeft, BitVec.toNat_ofNat, BitVec.toNat_ofNat, Nat.shiftLeft_eq, Nat.mod_mul_mod]
theorem L_shr {a k : Nat} (ha : a < 9223372036854775808) (hk : k < 64) : lN a >>> ((nI k).toInt64 &&& 63) = lN (a / 2 ^ k) := by
  apply Int64.toInt_inj.mp
  have h2 : a / 2 ^ k ≤ a := Nat.div_le_self _ _
  show ((BitVec.ofNat 64 a).sshiftRight (((nI k).toInt64 &&& 63).toBitVec.smod 64).toNat).toInt = _
  rw [L_cnt k hk, BitVec.toInt_sshiftRight, pk_lT (by omega)]
  have e : (BitVec.ofNat 64 a).toInt = (a : Int) := pk_lT (n := a) (by omega)
  rw [e, Int.shiftRight_eq_div_pow]
  rfl
theorem kL_i (x : Int32) : killL (.int x) = .int x := rfl
theorem kL_r (x : Nat) : killL (.ref x) = .ref x := rfl
theorem kL_f (x : UInt32) : killL (.float x) = .float x := rfl
theorem kL_d : killL DUM = DUM := rfl
theorem kL_l (x : Int64) : killL (.long x) = DUM := rfl
theorem kL_k (v : Value) : killL (killL v) = killL v := by cases v <;> rfl
def bI (c : Prop) [Decidable c] : Int32 := if c then nI 1 else nI 0
theorem bI_z (c : Prop) [Decidable c] : (bI c = 0) = ¬ c := by
  unfold bI
  by_cases h : c
  · simp only [h, if_true]; decide
  · simp only [h, if_false]; decide
theorem bI_1 (c : Prop) [Decidable c] : (bI c = nI 1) = c := by
  unfold bI
  by_cases h : c
  · simp [h]
  · simp only [h, if_false]; decide
theorem bI_01 (c : Prop) [Decidable c] : bI c = nI 0 ∨ bI c = nI 1 := by
  unfold bI
  by_cases h : c
  · exact Or.inr (by simp [h])
  · exact Or.inl (by simp [h])
theorem bI_t {c : Prop} [Decidable c] (h : c) : bI c = nI 1 := if_pos h
theorem bI_f {c : Prop} [Decidable c] (h : ¬ c) : bI c = nI 0 := if_neg h
theorem u2_s {α : Type} (f : Nat → Nat → α) (k j : Nat) (v : α) : up2 f k j v k j = v := by simp [up2]
theorem u2_n {α : Type} (f : Nat → Nat → α) {k a : Nat} (j b : Nat) (v : α) (h : a ≠ k) : up2 f k j v a b = f a b := by simp [up2, h]
theorem u2_m {α : Type} (f : Nat → Nat → α) {j b : Nat} (k a : Nat) (v : α) (h : b ≠ j) : up2 f k j v a b = f a b := by
  simp only [up2]
  split
  · rename_i e; subst e; simp [h]
  · rfl
theorem u2_r {α : Type} (f : Nat → Nat → α) {k a : Nat} (j : Nat) (v : α) (h : a ≠ k) : up2 f k j v a = f a := by simp [up2, h]
