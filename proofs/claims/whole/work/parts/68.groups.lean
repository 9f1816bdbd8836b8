/-! groups of the class: who is entered, who is earlier than whom -/
theorem bts_or {F F2 : Nat → Bool} {x n : Nat} (hx : x < n) (hn : n ≤ 16) (h : ∀ p, p < n → F2 p = (F p || decide (p = x))) : bts F2 n = bts F n ||| 2 ^ x := by
  have hp : 2 ^ x < 65536 := pow_lt16 (by omega)
  refine eq16 (bts_16 _ hn) (Nat.or_lt_two_pow (n := 16) (bts_16 _ hn) hp) (fun e he => ?_)
  rw [or_tb, bts_tb, bts_tb]
  by_cases hen : e < n
  · rw [h e hen]
    by_cases h2 : x = e
    · subst h2; simp [hen]
    · simp [hen, h2, Ne.symm h2]
  · simp [hen, show x ≠ e by omega]
theorem bts_clr {F F2 : Nat → Bool} {x n : Nat} (hx : x < 16) (hn : n ≤ 16) (h : ∀ p, p < n → F2 p = (F p && !decide (p = x))) : bts F2 n = bts F n &&& (2 ^ x ^^^ 4294967295) := by
  refine eq16 (bts_16 _ hn) (Nat.lt_of_le_of_lt Nat.and_le_left (bts_16 _ hn)) (fun e he => ?_)
  rw [Nat.testBit_and, Nat.testBit_xor, tb_ff (by omega), Nat.testBit_two_pow, bts_tb, bts_tb]
  by_cases hen : e < n
  · rw [h e hen]
    by_cases h2 : x = e
    · subst h2; simp
    · simp [hen, h2, Ne.symm h2]
  · simp [hen]
/-- what is led to what: the lump at a place and its option -/
def rel (σ : ST) (Ls : List Nat) (j : Nat → Nat) (p q : Nat) : Bool := decide (p ≠ q ∧ oR σ (Ls.getD p 0) (j (Ls.getD p 0)) = oR σ (Ls.getD q 0) (j (Ls.getD q 0)) ∧ oW σ (Ls.getD p 0) (j (Ls.getD p 0)) &&& oC σ (Ls.getD q 0) (j (Ls.getD q 0)) ≠ 0)
def mbr (σ : ST) (Ls : List Nat) (j : Nat → Nat) (a r q : Nat) : Bool := a.testBit q && decide (oR σ (Ls.getD q 0) (j (Ls.getD q 0)) = r)
def GI (σ : ST) (Ls : List Nat) (a : Nat) (j : Nat → Nat) (g : Nat → Nat → Int32) : Prop :=
  a < 2 ^ Ls.length ∧ (∀ r, r < 6 → g 34 r = nI (bts (mbr σ Ls j a r) 8)) ∧ (∀ q, a.testBit q = true → g 33 q = nI (bas σ Ls q + j (Ls.getD q 0)) ∧ j (Ls.getD q 0) < on σ (Ls.getD q 0) 6) ∧
  ∀ q, q < 8 → g 35 q = nI (bts (fun p => a.testBit q && a.testBit p && rel σ Ls j p q) 8) ∧ g 36 q = nI (bts (fun p => a.testBit q && a.testBit p && rel σ Ls j q p) 8)
/-- choices as they stand -/
def CP (σ : ST) (Ls : List Nat) (g : Nat → Nat → Int32) (hj : Nat → Nat → Int64) : Prop := rdCh g hj σ Ls ∧ Ls.length ≤ 8 ∧ Ls.Nodup ∧ (∀ l, l ∈ Ls → l < σ 11 0) ∧ WF σ
section GRP
variable {X : AX} {d : Nat} {Q : Option Value → AH → Prop} {g0 : Nat → Nat → Int32} {hj : Nat → Nat → Int64} {σ : ST} {Ls : List Nat} {j : Nat → Nat} {a : Nat}
theorem CP_cg {g g2 : Nat → Nat → Int32} (h : CP σ Ls g hj) (e : ∀ k, 24 ≤ k → k ≤ 30 → g2 k = g k) : CP σ Ls g2 hj := ⟨rdCh_cg h.1 e rfl, h.2⟩
theorem CP_rd {g : Nat → Nat → Int32} (c : CP σ Ls g hj) {p i : Nat} (hp : p < Ls.length) (hi : i < on σ (Ls.getD p 0) 6) : bas σ Ls p + i < 192 ∧ g 27 (bas σ Ls p + i) = nI (oR σ (Ls.getD p 0) i) ∧ g 28 (bas σ Ls p + i) = nI (oT σ (Ls.getD p 0) i) ∧ g 29 (bas σ Ls p + i) = nI (oW σ (Ls.getD p 0) i) ∧ g 30 (bas σ Ls p + i) = nI (oC σ (Ls.getD p 0) i) ∧ hj 31 (bas σ Ls p + i) = lN (oD σ (Ls.getD p 0) i) ∧ oR σ (Ls.getD p 0) i < 6 ∧ Ls.getD p 0 < σ 11 0 := by
  obtain ⟨c1, c2, c3, c4, c5⟩ := c
  obtain ⟨_, _, z3⟩ := c1.2.1 p hp
  obtain ⟨y1, y2, y3, y4, y5⟩ := z3 i hi
  have hb := bas_le (σ := σ) (Ls := Ls) p
  have ho := on_le (σ := σ) (l := Ls.getD p 0) 6
  exact ⟨by omega, y1, y2, y3, y4, y5, (op_ok hi).1, c4 _ (gD_mem hp)⟩
theorem a_lt (h : a < 2 ^ Ls.length) {q : Nat} (hq : a.testBit q = true) : q < Ls.length := by
  by_cases e : q < Ls.length
  · exact e
  · rw [lt_tb h (by omega)] at hq
    exact absurd hq (by decide)
theorem rel_cg {j2 : Nat → Nat} {p q : Nat} (h1 : j2 (Ls.getD p 0) = j (Ls.getD p 0)) (h2 : j2 (Ls.getD q 0) = j (Ls.getD q 0)) : rel σ Ls j2 p q = rel σ Ls j p q := by
  unfold rel
  rw [h1, h2]
theorem GI_j {j2 : Nat → Nat} {g : Nat → Nat → Int32} (h : GI σ Ls a j g) (e : ∀ q, a.testBit q = true → j2 (Ls.getD q 0) = j (Ls.getD q 0)) : GI σ Ls a j2 g := by
  obtain ⟨h1, h2, h3, h4⟩ := h
  refine ⟨h1, fun r hr => ?_, fun q hq => by rw [e q hq]; exact h3 q hq, fun q hq => ?_⟩
  · rw [h2 r hr]
    congr 1
    refine bts_cg 8 (fun q hq => ?_)
    unfold mbr
    by_cases hb : a.testBit q = true
    · rw [e q hb]
    · simp [hb]
  · obtain ⟨z1, z2⟩ := h4 q hq
    rw [z1, z2]
    constructor
    · congr 1
      refine bts_cg 8 (fun p hp => ?_)
      by_cases hb : a.testBit q = true
      · by_cases hc : a.testBit p = true
        · rw [rel_cg (e p hc) (e q hb)]
        · simp [hc]
      · simp [hb]
    · congr 1
      refine bts_cg 8 (fun p hp => ?_)
      by_cases hb : a.testBit q = true
      · by_cases hc : a.testBit p = true
        · rw [rel_cg (e q hb) (e p hc)]
        · simp [hc]
      · simp [hb]
def F35 (σ : ST) (Ls : List Nat) (j j2 : Nat → Nat) (a P x y q p : Nat) : Bool := if q = P then decide (p < x) && a.testBit p && rel σ Ls j2 p P else if p = P then decide (q < y) && a.testBit q && rel σ Ls j2 P q else a.testBit q && a.testBit p && rel σ Ls j p q
def F36 (σ : ST) (Ls : List Nat) (j j2 : Nat → Nat) (a P x y q p : Nat) : Bool := if q = P then decide (p < y) && a.testBit p && rel σ Ls j2 P p else if p = P then decide (q < x) && a.testBit q && rel σ Ls j2 q P else a.testBit q && a.testBit p && rel σ Ls j q p
def AR (σ : ST) (Ls : List Nat) (j j2 : Nat → Nat) (a P x y : Nat) (g : Nat → Nat → Int32) : Prop := ∀ q, q < 8 → g 35 q = nI (bts (F35 σ Ls j j2 a P x y q) 8) ∧ g 36 q = nI (bts (F36 σ Ls j j2 a P x y q) 8)
variable {P i : Nat}
/-- the arrays, one further in the first direction -/
theorem AR_x {g g2 : Nat → Nat → Int32} {j2 : Nat → Nat} {x y : Nat} (hP : P < 8) (hx : x < 8) (hxP : x ≠ P) (h : AR σ Ls j j2 a P x y g) (hc : a.testBit x = true ∧ rel σ Ls j2 x P = true) (e1 : ∀ B A, g 35 P = nI B → g 36 x = nI A → g2 = up2 (up2 g 35 P (nI (B ||| 2 ^ x))) 36 x (nI (A ||| 2 ^ P))) : AR σ Ls j j2 a P (x + 1) y g2 := by
  have hg := e1 _ _ (h P hP).1 (h x hx).2
  intro q hq
  obtain ⟨z1, z2⟩ := h q hq
  rw [hg]
  constructor
  · rw [u2_n _ _ _ _ (by omega)]
    by_cases e : q = P
    · subst e
      rw [u2_s]
      congr 1
      symm
      refine bts_or hx (by omega) (fun p hp => ?_)
      unfold F35
      rw [if_pos rfl, if_pos rfl]
      by_cases e2 : p = x
      · subst e2; simp [hc.1, hc.2]
      · simp [e2, show (p < x + 1) ↔ (p < x) by omega]
    · rw [u2_m _ _ _ _ e, z1]
      congr 1
      refine bts_cg 8 (fun p hp => ?_)
      unfold F35
      rw [if_neg e, if_neg e]
  · by_cases e : q = x
    · subst e
      rw [u2_s]
      congr 1
      symm
      refine bts_or hP (by omega) (fun p hp => ?_)
      unfold F36
      rw [if_neg hxP, if_neg hxP]
      by_cases e2 : p = P
      · subst e2; simp [hc.1, hc.2]
      · simp [e2]
    · rw [u2_m _ _ _ _ e, u2_n _ _ _ _ (by omega), z2]
      congr 1
      refine bts_cg 8 (fun p hp => ?_)
      unfold F36
      by_cases e2 : q = P
      · rw [if_pos e2, if_pos e2]
      · rw [if_neg e2, if_neg e2]
        simp [show (q < x + 1) ↔ (q < x) by omega]
theorem AR_x0 {g : Nat → Nat → Int32} {j2 : Nat → Nat} {x y : Nat} (h : AR σ Ls j j2 a P x y g) (hc : ¬ (a.testBit x = true ∧ rel σ Ls j2 x P = true)) : AR σ Ls j j2 a P (x + 1) y g := by
  have hc2 : (a.testBit x && rel σ Ls j2 x P) = false := by
    simpa using hc
  intro q hq
  obtain ⟨z1, z2⟩ := h q hq
  rw [z1, z2]
  constructor
  · congr 1
    refine bts_cg 8 (fun p hp => ?_)
    unfold F35
    split
    · by_cases e : p = x
      · subst e
        rw [Bool.and_assoc, Bool.and_assoc, hc2]; simp
      · simp [show (p < x + 1) ↔ (p < x) by omega]
    · rfl
  · congr 1
    refine bts_cg 8 (fun p hp => ?_)
    unfold F36
    split
    · rfl
    · split
      · by_cases e : q = x
        · subst e
          rw [Bool.and_assoc, Bool.and_assoc, hc2]; simp
        · simp [show (q < x + 1) ↔ (q < x) by omega]
      · rfl
theorem AR_y {g g2 : Nat → Nat → Int32} {j2 : Nat → Nat} {x y : Nat} (hP : P < 8) (hy : y < 8) (hyP : y ≠ P) (h : AR σ Ls j j2 a P x y g) (hc : a.testBit y = true ∧ rel σ Ls j2 P y = true) (e1 : ∀ A B, g 36 P = nI A → g 35 y = nI B → g2 = up2 (up2 g 36 P (nI (A ||| 2 ^ y))) 35 y (nI (B ||| 2 ^ P))) : AR σ Ls j j2 a P x (y + 1) g2 := by
  have hg := e1 _ _ (h P hP).2 (h y hy).1
  intro q hq
  obtain ⟨z1, z2⟩ := h q hq
  rw [hg]
  constructor
  · by_cases e : q = y
    · subst e
      rw [u2_s]
      congr 1
      symm
      refine bts_or hP (by omega) (fun p hp => ?_)
      unfold F35
      rw [if_neg hyP, if_neg hyP]
      by_cases e2 : p = P
      · subst e2; simp [hc.1, hc.2]
      · simp [e2]
    · rw [u2_m _ _ _ _ e, u2_n _ _ _ _ (by omega), z1]
      congr 1
      refine bts_cg 8 (fun p hp => ?_)
      unfold F35
      by_cases e2 : q = P
      · rw [if_pos e2, if_pos e2]
      · rw [if_neg e2, if_neg e2]
        simp [show (q < y + 1) ↔ (q < y) by omega]
  · rw [u2_n _ _ _ _ (by omega)]
    by_cases e : q = P
    · subst e
      rw [u2_s]
      congr 1
      symm
      refine bts_or hy (by omega) (fun p hp => ?_)
      unfold F36
      rw [if_pos rfl, if_pos rfl]
      by_cases e2 : p = y
      · subst e2; simp [hc.1, hc.2]
      · simp [e2, show (p < y + 1) ↔ (p < y) by omega]
    · rw [u2_m _ _ _ _ e, z2]
      congr 1
      refine bts_cg 8 (fun p hp => ?_)
      unfold F36
      rw [if_neg e, if_neg e]
theorem AR_y0 {g : Nat → Nat → Int32} {j2 : Nat → Nat} {x y : Nat} (h : AR σ Ls j j2 a P x y g) (hc : ¬ (a.testBit y = true ∧ rel σ Ls j2 P y = true)) : AR σ Ls j j2 a P x (y + 1) g := by
  have hc2 : (a.testBit y && rel σ Ls j2 P y) = false := by
    simpa using hc
  intro q hq
  obtain ⟨z1, z2⟩ := h q hq
  rw [z1, z2]
  constructor
  · congr 1
    refine bts_cg 8 (fun p hp => ?_)
    unfold F35
    split
    · rfl
    · split
      · by_cases e : q = y
        · subst e
          rw [Bool.and_assoc, Bool.and_assoc, hc2]; simp
        · simp [show (q < y + 1) ↔ (q < y) by omega]
      · rfl
  · congr 1
    refine bts_cg 8 (fun p hp => ?_)
    unfold F36
    split
    · by_cases e : p = y
      · subst e
        rw [Bool.and_assoc, Bool.and_assoc, hc2]; simp
      · simp [show (p < y + 1) ↔ (p < y) by omega]
    · rfl
end GRP
