/-! what the cells say of the state: class and model -/
def pl (σ : ST) : Nat → List Nat
  | 0 => []
  | m + 1 => if (σ 18 0).testBit m = true then pl σ m else pl σ m ++ [m]
abbrev PL (σ : ST) : List Nat := pl σ (σ 11 0)
def bas (σ : ST) (Ls : List Nat) : Nat → Nat
  | 0 => 0
  | p + 1 => bas σ Ls p + on σ (Ls.getD p 0) 6
def stw (σ : ST) (w : Nat → Nat) : List Nat → Nat → Nat
  | [], a => a
  | l :: Ls, a => stw σ w Ls (a ||| 2 ^ stone σ (oR σ l (w l)))
def cnt (σ : ST) (w : Nat → Nat) : Nat := pcn (stw σ w (PL σ) 0) 16
def bb (σ : ST) (ws : List (Nat → Nat)) : Nat × (Nat → Nat) := ws.foldl (fun s w => if cnt σ w < s.1 then (cnt σ w, w) else s) (7, fun _ => 0)
def mayN (σ : ST) (ws : List (Nat → Nat)) (l : Nat) : Nat := ws.foldl (fun m w => m ||| 2 ^ oR σ l (w l)) 0
noncomputable def wyl (σ : ST) : List (Nat → Nat) := (Ws σ (PL σ) [] (fun _ => 0)).take 20000
/-- places of the ring, chosen so, agree with those of a set, turned somehow -/
def CTP (σ : ST) (A S : Nat → Prop) (j : Nat → Nat) (r : Nat) : Prop := ∃ j2 : Nat → Nat, (∀ l, A l → oR σ l (j l) = r → j2 l = j l) ∧ (∀ l, S l → j2 l < on σ l 6 ∧ oR σ l (j2 l) = r) ∧ AGL σ j2 (fun l => (A l ∧ oR σ l (j l) = r) ∨ S l)
/-- the lumps at the places of a set -/
def inS (Ls : List Nat) (s l : Nat) : Prop := ∃ p, p < Ls.length ∧ s.testBit p = true ∧ l = Ls.getD p 0
def rdCh (g : Nat → Nat → Int32) (hj : Nat → Nat → Int64) (σ : ST) (Ls : List Nat) : Prop :=
  g 24 2 = nI Ls.length ∧ (∀ p, p < Ls.length → g 25 p = nI (Ls.getD p 0) ∧ (∀ r, r < 6 → g 26 (p * 6 + r) = nI (bas σ Ls p + on σ (Ls.getD p 0) r)) ∧ ∀ i, i < on σ (Ls.getD p 0) 6 → g 27 (bas σ Ls p + i) = nI (oR σ (Ls.getD p 0) i) ∧ g 28 (bas σ Ls p + i) = nI (oT σ (Ls.getD p 0) i) ∧ g 29 (bas σ Ls p + i) = nI (oW σ (Ls.getD p 0) i) ∧ g 30 (bas σ Ls p + i) = nI (oC σ (Ls.getD p 0) i) ∧ hj 31 (bas σ Ls p + i) = lN (oD σ (Ls.getD p 0) i)) ∧
  g 26 (Ls.length * 6) = nI (bas σ Ls Ls.length)
def GE (g : Nat → Nat → Int32) : Prop := (∀ r, r < 6 → g 34 r = nI 0 ∧ g 41 r = nI 0) ∧ ∀ q, q < 8 → g 35 q = nI 0 ∧ g 36 q = nI 0
def rdTb (g : Nat → Nat → Int32) (σ : ST) (Ls : List Nat) (A : Nat → Prop) (j : Nat → Nat) (r c : Nat) : Prop :=
  ∀ s, s < 2 ^ (8 - c) → g 39 (r * 512 + (512 - 512 / 2 ^ c) + s) = nI 0 ∨ (g 39 (r * 512 + (512 - 512 / 2 ^ c) + s) = nI 1 ∧ CTP σ A (inS Ls (s * 2 ^ c)) j r) ∨ (g 39 (r * 512 + (512 - 512 / 2 ^ c) + s) = nI 2 ∧ ¬ CTP σ A (inS Ls (s * 2 ^ c)) j r)
def FR (σ : ST) (g : Nat → Nat → Int32) (hj : Nat → Nat → Int64) : Prop :=
  (PL σ).length ≤ 8 ∧ rdCh g hj σ (PL σ) ∧ (∀ r, r < 6 → g 40 r = nI 0 ∧ rdTb g σ (PL σ) (fun _ => False) (fun _ => 0) r 0) ∧ g 19 8 = nI (wyl σ).length ∧ g 19 9 = nI (bb σ (wyl σ)).1 ∧
  ∀ l, l < σ 11 0 → if (σ 18 0).testBit l = true then g 21 l = -1 ∧ g 22 l = -1 ∧ g 23 l = nI 0 else (0 < (wyl σ).length → g 21 l = nI (oR σ l ((bb σ (wyl σ)).2 l)) ∧ g 22 l = nI (oT σ l ((bb σ (wyl σ)).2 l))) ∧ g 23 l = nI (mayN σ (wyl σ) l)
def CW (σ : ST) (g : Nat → Nat → Int32) (hj : Nat → Nat → Int64) : Prop := GE g ∧ (g 19 10 = nI 0 ∨ g 19 10 = nI 1 ∧ FR σ g hj)
def rdOp (g : Nat → Nat → Int32) (hj : Nat → Nat → Int64) (σ : ST) : Prop :=
  (∀ l, l < σ 11 0 → g 66 l = nI (on σ l 6) ∧ ∀ i, i < on σ l 6 → g 67 (24 * l + i) = nI (oR σ l i) ∧ g 68 (24 * l + i) = nI (oT σ l i) ∧ g 69 (24 * l + i) = nI (oC σ l i) ∧ g 70 (24 * l + i) = nI (oW σ l i)) ∧ ∀ r, r < σ 2 0 → hj 71 r = lN (dys σ r)
def FM (σ : ST) (g : Nat → Nat → Int32) (hj : Nat → Nat → Int64) : Prop :=
  (PL σ).length ≤ 8 ∧ rdOp g hj σ ∧ g 51 34 = nI (wyl σ).length ∧ (0 < (wyl σ).length → g 51 35 = nI (bb σ (wyl σ)).1) ∧
  ∀ l, l < σ 11 0 → if (σ 18 0).testBit l = true then g 78 l = nI 0 else (0 < (wyl σ).length → g 77 l = nI (24 * l + (bb σ (wyl σ)).2 l)) ∧ g 78 l = nI (mayN σ (wyl σ) l)
def MW (σ : ST) (g : Nat → Nat → Int32) (hj : Nat → Nat → Int64) : Prop := g 51 13 = nI 0 ∨ g 51 13 = nI 1 ∧ FM σ g hj
/-- two lumps can be joined -/
def jnt (σ : ST) (a b t : Nat) : Bool := decide (¬ (σ 12 a &&& bl σ b t ≠ 0 ∧ wh σ b t &&& nob σ a ≠ 0) ∧ (σ 12 a &&& bl σ b t ≠ 0 → σ 14 a ≤ σ 15 b) ∧ (wh σ b t &&& nob σ a ≠ 0 → σ 14 b ≤ σ 15 a))
def jn (σ : ST) (a b : Nat) : Bool := jnt σ a b 0 || jnt σ a b 1 || jnt σ a b 2 || jnt σ a b 3
/-- a row of numbers below m, such that those of one number can be joined -/
def VR (σ : ST) (Ls : List Nat) (m : Nat) (x : Nat → Nat) : Prop := (∀ k, k < Ls.length → x k < m) ∧ ∀ p q, p < q → q < Ls.length → x p = x q → jn σ (Ls.getD p 0) (Ls.getD q 0) = true
def lexle (n : Nat) (x y : Nat → Nat) : Prop := (∀ k, k < n → x k = y k) ∨ ∃ k, k < n ∧ (∀ i, i < k → x i = y i) ∧ x k < y k
/-- the fewest numbers, and the least row -/
def LR (σ : ST) (Ls : List Nat) (m : Nat) (x : Nat → Nat) : Prop := VR σ Ls m x ∧ (∀ y, VR σ Ls m y → lexle Ls.length x y) ∧ ∀ k, k < m → ∀ y, ¬ VR σ Ls k y
def CG (σ : ST) (g : Nat → Nat → Int32) : Prop := g 42 7 = nI 0 ∨ g 42 7 = nI 1 ∧ (PL σ).length ≤ 8 ∧ ∃ m x, LR σ (PL σ) m x ∧ g 42 6 = nI m ∧ (∀ k, k < (PL σ).length → g 46 ((PL σ).getD k 0) = nI (x k)) ∧ ∀ l, l < σ 11 0 → (σ 18 0).testBit l = true → g 46 l = -1
def WT (τ : ST) : Prop := (∀ s, s < 4 → τ 19 s ≤ 1 ∧ τ 20 s < 3 ∧ τ 21 s ≤ 48) ∧ (∀ i, τ 22 i < 4294967296) ∧ τ 23 0 ≤ 5
def CS (τ : ST) (g : Nat → Nat → Int32) : Prop := WT τ ∧ g 47 3 = nI (τ 23 0) ∧ ∀ s, s < 4 → if τ 19 s = 0 then g 50 s = -1 else g 50 s = nI (τ 21 s) ∧ g 49 s = nI (τ 20 s) ∧ ∀ i, i < τ 21 s → g 48 (s * 48 + i) = nI (τ 22 (48 * s + i))
def MS (τ : ST) (g : Nat → Nat → Int32) : Prop := WT τ ∧ g 51 45 = nI (τ 23 0) ∧ ∀ s, s < 4 → g 81 s = nI (τ 19 s) ∧ (τ 19 s = 1 → g 83 s = nI (τ 21 s) ∧ g 82 s = nI (τ 20 s) ∧ ∀ i, i < τ 21 s → g 84 (48 * s + i) = nI (τ 22 (48 * s + i)))
def CR (t : Nat → Nat) (n : Nat) (σ τ : ST) (g : Nat → Nat → Int32) (hj : Nat → Nat → Int64) : Prop := rdL g 1 1 2 t n ∧ C0 σ g hj ∧ CW σ g hj ∧ CG σ g ∧ CS τ g
def MR (t : Nat → Nat) (n : Nat) (σ τ : ST) (g : Nat → Nat → Int32) (hj : Nat → Nat → Int64) : Prop := rdL g 51 0 52 t n ∧ M0 σ g hj ∧ MW σ g hj ∧ MS τ g
section CGS
variable {σ τ : ST} {g g2 : Nat → Nat → Int32} {hj hj2 : Nat → Nat → Int64} {t : Nat → Nat} {n : Nat}
theorem rdL_cg {ko jo ka : Nat} (h : rdL g ko jo ka t n) (e1 : g2 ko jo = g ko jo) (e2 : g2 ka = g ka) : rdL g2 ko jo ka t n := by
  obtain ⟨h1, h2, h3, h4⟩ := h
  exact ⟨e1.trans h1, h2, by rw [e2]; exact h3, h4⟩
theorem C0_cg (h : C0 σ g hj) (e : ∀ k, 3 ≤ k → k ≤ 17 → g2 k = g k) (e2 : hj2 9 = hj 9) : C0 σ g2 hj2 := by
  unfold C0 rdR rdHc rdLu at h ⊢
  rw [e 3 (by omega) (by omega), e 4 (by omega) (by omega), e 5 (by omega) (by omega), e 6 (by omega) (by omega), e 7 (by omega) (by omega), e 8 (by omega) (by omega), e 10 (by omega) (by omega), e 11 (by omega) (by omega), e 12 (by omega) (by omega), e 13 (by omega) (by omega), e 14 (by omega) (by omega), e 15 (by omega) (by omega), e 16 (by omega) (by omega), e 17 (by omega) (by omega), e2]
  exact h
theorem GE_cg (h : GE g) (e : ∀ k, 34 ≤ k → k ≤ 41 → g2 k = g k) : GE g2 := by
  unfold GE at h ⊢
  rw [e 34 (by omega) (by omega), e 35 (by omega) (by omega), e 36 (by omega) (by omega), e 41 (by omega) (by omega)]
  exact h
theorem rdCh_cg {Ls : List Nat} (h : rdCh g hj σ Ls) (e : ∀ k, 24 ≤ k → k ≤ 30 → g2 k = g k) (e2 : hj2 31 = hj 31) : rdCh g2 hj2 σ Ls := by
  unfold rdCh at h ⊢
  rw [e 24 (by omega) (by omega), e 25 (by omega) (by omega), e 26 (by omega) (by omega), e 27 (by omega) (by omega), e 28 (by omega) (by omega), e 29 (by omega) (by omega), e 30 (by omega) (by omega), e2]
  exact h
theorem CW_cg (h : CW σ g hj) (e : ∀ k, 19 ≤ k → k ≤ 41 → g2 k = g k) (e2 : hj2 31 = hj 31) : CW σ g2 hj2 := by
  unfold CW GE FR rdCh rdTb at h ⊢
  rw [e 19 (by omega) (by omega), e 21 (by omega) (by omega), e 22 (by omega) (by omega), e 23 (by omega) (by omega), e 24 (by omega) (by omega), e 25 (by omega) (by omega), e 26 (by omega) (by omega), e 27 (by omega) (by omega), e 28 (by omega) (by omega), e 29 (by omega) (by omega), e 30 (by omega) (by omega), e 34 (by omega) (by omega), e 35 (by omega) (by omega), e 36 (by omega) (by omega), e 39 (by omega) (by omega), e 40 (by omega) (by omega), e 41 (by omega) (by omega), e2]
  exact h
theorem CG_cg (h : CG σ g) (e : ∀ k, 42 ≤ k → k ≤ 46 → g2 k = g k) : CG σ g2 := by
  unfold CG at h ⊢
  rw [e 42 (by omega) (by omega), e 46 (by omega) (by omega)]
  exact h
theorem CS_cg (h : CS τ g) (e : ∀ k, 47 ≤ k → k ≤ 50 → g2 k = g k) : CS τ g2 := by
  unfold CS at h ⊢
  rw [e 47 (by omega) (by omega), e 48 (by omega) (by omega), e 49 (by omega) (by omega), e 50 (by omega) (by omega)]
  exact h
theorem CR_cg (h : CR t n σ τ g hj) (e : ∀ k, k ≤ 50 → g2 k = g k) (e2 : ∀ k, k ≤ 50 → hj2 k = hj k) : CR t n σ τ g2 hj2 :=
  ⟨rdL_cg h.1 (by rw [e 1 (by omega)]) (e 2 (by omega)), C0_cg h.2.1 (fun k _ _ => e k (by omega)) (e2 9 (by omega)), CW_cg h.2.2.1 (fun k _ _ => e k (by omega)) (e2 31 (by omega)), CG_cg h.2.2.2.1 (fun k _ _ => e k (by omega)), CS_cg h.2.2.2.2 (fun k _ _ => e k (by omega))⟩
theorem M0_cg (h : M0 σ g hj) (e4 : g2 51 4 = g 51 4) (e8 : g2 51 8 = g 51 8) (e14 : g2 51 14 = g 51 14) (e21 : g2 51 21 = g 51 21) (e : ∀ k, 53 ≤ k → k ≤ 65 → g2 k = g k) : M0 σ g2 hj2 := by
  unfold M0 rdR rdHm rdLm at h ⊢
  rw [e4, e8, e14, e21, e 53 (by omega) (by omega), e 54 (by omega) (by omega), e 55 (by omega) (by omega), e 56 (by omega) (by omega), e 57 (by omega) (by omega), e 58 (by omega) (by omega), e 59 (by omega) (by omega), e 60 (by omega) (by omega), e 61 (by omega) (by omega), e 62 (by omega) (by omega), e 63 (by omega) (by omega), e 64 (by omega) (by omega), e 65 (by omega) (by omega)]
  exact h
theorem MW_cg (h : MW σ g hj) (e13 : g2 51 13 = g 51 13) (e34 : g2 51 34 = g 51 34) (e35 : g2 51 35 = g 51 35) (e : ∀ k, k = 66 ∨ k = 67 ∨ k = 68 ∨ k = 69 ∨ k = 70 ∨ k = 77 ∨ k = 78 → g2 k = g k) (e2 : hj2 71 = hj 71) : MW σ g2 hj2 := by
  unfold MW FM rdOp at h ⊢
  rw [e13, e34, e35, e 66 (by omega), e 67 (by omega), e 68 (by omega), e 69 (by omega), e 70 (by omega), e 77 (by omega), e 78 (by omega), e2]
  exact h
theorem MS_cg (h : MS τ g) (e45 : g2 51 45 = g 51 45) (e : ∀ k, 81 ≤ k → k ≤ 84 → g2 k = g k) : MS τ g2 := by
  unfold MS at h ⊢
  rw [e45, e 81 (by omega) (by omega), e 82 (by omega) (by omega), e 83 (by omega) (by omega), e 84 (by omega) (by omega)]
  exact h
theorem MR_cg (h : MR t n σ τ g hj) (e : ∀ k, 51 ≤ k → g2 k = g k) (e2 : ∀ k, 51 ≤ k → hj2 k = hj k) : MR t n σ τ g2 hj2 := by
  have h51 := e 51 (by omega)
  exact ⟨rdL_cg h.1 (by rw [h51]) (e 52 (by omega)), M0_cg h.2.1 (by rw [h51]) (by rw [h51]) (by rw [h51]) (by rw [h51]) (fun k _ _ => e k (by omega)), MW_cg h.2.2.1 (by rw [h51]) (by rw [h51]) (by rw [h51]) (fun k hk => e k (by omega)) (e2 71 (by omega)), MS_cg h.2.2.2 (by rw [h51]) (fun k _ _ => e k (by omega))⟩
end CGS
