/-! the search, plainly: options, agreement, ways -/
def lik (σ : ST) (l r t u : Nat) : Bool := decide (ch σ l r u = ch σ l r t ∧ wh σ l u = wh σ l t)
def kp (σ : ST) (l r : Nat) : Nat → List Nat
  | 0 => []
  | t + 1 => if (decide (r < σ 2 0) && cbb σ l r t && !(kp σ l r t).any (lik σ l r t)) = true then kp σ l r t ++ [t] else kp σ l r t
def ops (σ : ST) (l : Nat) : Nat → List (Nat × Nat)
  | 0 => []
  | R + 1 => ops σ l R ++ (kp σ l R 4).map (fun t => (R, t))
def on (σ : ST) (l R : Nat) : Nat := (ops σ l R).length
def oR (σ : ST) (l i : Nat) : Nat := ((ops σ l 6).getD i (0, 0)).1
def oT (σ : ST) (l i : Nat) : Nat := ((ops σ l 6).getD i (0, 0)).2
def oW (σ : ST) (l i : Nat) : Nat := wh σ l (oT σ l i)
def oC (σ : ST) (l i : Nat) : Nat := ch σ l (oR σ l i) (oT σ l i)
def oD (σ : ST) (l i : Nat) : Nat := dd σ l (oR σ l i)
section OPS
variable {σ : ST} {l : Nat}
theorem kp_len (r : Nat) : ∀ t, (kp σ l r t).length ≤ t
  | 0 => Nat.le_refl 0
  | t + 1 => by
    have := kp_len r t
    unfold kp
    split
    · simp; omega
    · omega
theorem kp_mem {r u : Nat} : ∀ t, u ∈ kp σ l r t → u < t ∧ r < σ 2 0 ∧ cb σ l r u
  | 0, h => by simp [kp] at h
  | t + 1, h => by
    unfold kp at h
    split at h
    · rename_i hc
      simp only [Bool.and_eq_true, decide_eq_true_eq] at hc
      rw [List.mem_append] at h
      rcases h with h | h
      · obtain ⟨a, b⟩ := kp_mem t h
        exact ⟨by omega, b⟩
      · simp at h
        subst h
        exact ⟨by omega, hc.1⟩
    · obtain ⟨a, b⟩ := kp_mem t h
      exact ⟨by omega, b⟩
theorem on_s (R : Nat) : on σ l (R + 1) = on σ l R + (kp σ l R 4).length := by
  unfold on
  rw [ops, List.length_append, List.length_map]
theorem on_0 : on σ l 0 = 0 := rfl
theorem on_le : ∀ R, on σ l R ≤ 4 * R
  | 0 => Nat.le_refl 0
  | R + 1 => by
    have := on_le R
    have := kp_len (σ := σ) (l := l) R 4
    rw [on_s]
    omega
theorem on_mono {R : Nat} : ∀ k, on σ l R ≤ on σ l (R + k)
  | 0 => Nat.le_refl _
  | k + 1 => by
    have := on_mono (R := R) k
    rw [← Nat.add_assoc, on_s]
    omega
theorem on_mono2 {R S : Nat} (h : R ≤ S) : on σ l R ≤ on σ l S := by
  obtain ⟨k, rfl⟩ : ∃ k, S = R + k := ⟨S - R, by omega⟩
  exact on_mono k
theorem ops_pre {R i : Nat} (h : i < on σ l R) : ∀ k, (ops σ l (R + k)).getD i (0, 0) = (ops σ l R).getD i (0, 0)
  | 0 => rfl
  | k + 1 => by
    rw [← Nat.add_assoc, ops, ← ops_pre h k]
    have h2 : i < (ops σ l (R + k)).length := Nat.lt_of_lt_of_le h (on_mono k)
    rw [List.getD_eq_getElem?_getD, List.getD_eq_getElem?_getD, List.getElem?_append_left h2]
theorem op_at {r i : Nat} (hr : r < 6) (h1 : on σ l r ≤ i) (h2 : i < on σ l (r + 1)) : oR σ l i = r ∧ oT σ l i = (kp σ l r 4).getD (i - on σ l r) 0 ∧ oT σ l i ∈ kp σ l r 4 := by
  have e : (ops σ l 6).getD i (0, 0) = (ops σ l (r + 1)).getD i (0, 0) := by
    have := ops_pre h2 (6 - (r + 1))
    rw [show r + 1 + (6 - (r + 1)) = 6 by omega] at this
    exact this
  have h3 : i - on σ l r < (kp σ l r 4).length := by rw [on_s] at h2; omega
  have e2 : (ops σ l (r + 1)).getD i (0, 0) = (r, (kp σ l r 4)[i - on σ l r]) := by
    rw [ops, List.getD_eq_getElem?_getD, List.getElem?_append_right h1, List.getElem?_map]
    show Option.getD (Option.map (fun t => (r, t)) ((kp σ l r 4)[i - on σ l r]?)) (0, 0) = _
    rw [List.getElem?_eq_getElem h3]
    rfl
  have e3 : oT σ l i = (kp σ l r 4)[i - on σ l r] := by unfold oT; rw [e, e2]
  refine ⟨by unfold oR; rw [e, e2], ?_, ?_⟩
  · rw [e3, List.getD_eq_getElem?_getD, List.getElem?_eq_getElem h3]
    rfl
  · rw [e3]
    exact List.getElem_mem h3
theorem op_ex {i : Nat} : ∀ R, i < on σ l R → ∃ r, r < R ∧ on σ l r ≤ i ∧ i < on σ l (r + 1)
  | 0, h => by simp [on, ops] at h
  | R + 1, h => by
    by_cases h2 : i < on σ l R
    · obtain ⟨r, a, b⟩ := op_ex R h2
      exact ⟨r, by omega, b⟩
    · exact ⟨R, by omega, by omega, h⟩
theorem op_ok {i : Nat} (h : i < on σ l 6) : oR σ l i < 6 ∧ oR σ l i < σ 2 0 ∧ oT σ l i < 4 ∧ cb σ l (oR σ l i) (oT σ l i) ∧ on σ l (oR σ l i) ≤ i ∧ i < on σ l (oR σ l i + 1) := by
  obtain ⟨r, h1, h2, h3⟩ := op_ex 6 h
  obtain ⟨e1, e2, e3⟩ := op_at h1 h2 h3
  obtain ⟨m1, m2, m3⟩ := kp_mem 4 e3
  rw [e1]
  exact ⟨h1, m2, m1, m3, h2, h3⟩
theorem op_ring {r i : Nat} (hr : r < 6) (h : i < on σ l 6) : oR σ l i = r ↔ on σ l r ≤ i ∧ i < on σ l (r + 1) := by
  constructor
  · intro e
    obtain ⟨_, _, _, _, h2, h3⟩ := op_ok h
    rw [e] at h2 h3
    exact ⟨h2, h3⟩
  · rintro ⟨h1, h2⟩
    exact (op_at hr h1 h2).1
end OPS
def AGL (σ : ST) (j : Nat → Nat) (S : Nat → Prop) : Prop := ∃ rk dy : Nat → Nat, (∀ l, S l → (oD σ l (j l)).testBit (dy l) = true) ∧ ∀ a b, S a → S b → a ≠ b → oW σ a (j a) &&& oC σ b (j b) ≠ 0 → rk a < rk b ∧ dy a ≤ dy b
def EWp (σ : ST) (A S : Nat → Prop) (j : Nat → Nat) : Prop := ∃ j2 : Nat → Nat, (∀ l, A l → j2 l = j l) ∧ (∀ l, S l → j2 l < on σ l 6) ∧ ∀ r, AGL σ j2 (fun l => (A l ∨ S l) ∧ oR σ l (j2 l) = r)
noncomputable def cl (P : Prop) : Bool := @decide P (Classical.propDecidable P)
theorem cl_t {P : Prop} : cl P = true ↔ P := @decide_eq_true_iff P (Classical.propDecidable P)
theorem cl_f {P : Prop} : cl P = false ↔ ¬ P := @decide_eq_false_iff_not P (Classical.propDecidable P)
theorem cl_cg {P R : Prop} (h : P ↔ R) : cl P = cl R := by rw [propext h]
def pu (j : Nat → Nat) (l c : Nat) : Nat → Nat := fun x => if x = l then c else j x
theorem pu_s (j : Nat → Nat) (l c : Nat) : pu j l c l = c := by simp [pu]
theorem pu_n {j : Nat → Nat} {l x : Nat} (c : Nat) (h : x ≠ l) : pu j l c x = j x := by simp [pu, h]
noncomputable def okB (σ : ST) (dn : List Nat) (l : Nat) (j : Nat → Nat) : Bool := cl (AGL σ j (fun x => x ∈ dn ∧ oR σ x (j x) = oR σ l (j l)))
def flm {α : Type} (f : Nat → List α) : Nat → Nat → List α
  | 0, _ => []
  | n + 1, i => f i ++ flm f n (i + 1)
noncomputable def Ws (σ : ST) : List Nat → List Nat → (Nat → Nat) → List (Nat → Nat)
  | [], _, j => [j]
  | l :: Ls, dn, j => flm (fun c => if okB σ (l :: dn) l (pu j l c) = true then Ws σ Ls (l :: dn) (pu j l c) else []) (on σ l 6) 0
section AGS
variable {σ : ST} {j j2 : Nat → Nat} {S T : Nat → Prop}
theorem AGL_sub (h : AGL σ j S) (hs : ∀ l, T l → S l) : AGL σ j T := by
  obtain ⟨rk, dy, h1, h2⟩ := h
  exact ⟨rk, dy, fun l hl => h1 l (hs l hl), fun a b ha hb => h2 a b (hs a ha) (hs b hb)⟩
theorem AGL_cg (h : AGL σ j S) (hs : ∀ l, S l → j l = j2 l) : AGL σ j2 S := by
  obtain ⟨rk, dy, h1, h2⟩ := h
  refine ⟨rk, dy, fun l hl => by rw [← hs l hl]; exact h1 l hl, fun a b ha hb hn he => ?_⟩
  rw [← hs a ha, ← hs b hb] at he
  exact h2 a b ha hb hn he
theorem AGL_0 (h : ∀ l, ¬ S l) : AGL σ j S := ⟨fun _ => 0, fun _ => 0, fun l hl => absurd hl (h l), fun a b ha => absurd ha (h a)⟩
theorem flm_ne {α : Type} {f : Nat → List α} : ∀ n i, flm f n i ≠ [] ↔ ∃ c, i ≤ c ∧ c < i + n ∧ f c ≠ []
  | 0, i => by
    constructor
    · intro h; exact absurd rfl h
    · rintro ⟨c, h1, h2, _⟩; omega
  | n + 1, i => by
    have ih := flm_ne (f := f) n (i + 1)
    constructor
    · intro h
      by_cases hf : f i = []
      · have : flm f n (i + 1) ≠ [] := by
          intro e
          apply h
          unfold flm
          rw [hf, e]
          rfl
        obtain ⟨c, h1, h2, h3⟩ := ih.mp this
        exact ⟨c, by omega, by omega, h3⟩
      · exact ⟨i, by omega, by omega, hf⟩
    · rintro ⟨c, h1, h2, h3⟩ e
      unfold flm at e
      rw [List.append_eq_nil_iff] at e
      by_cases hc : c = i
      · subst hc; exact h3 e.1
      · exact ih.mpr ⟨c, by omega, by omega, h3⟩ e.2
theorem Ws_ne : ∀ (Ls dn : List Nat) (j : Nat → Nat), Ls.Nodup → (∀ l, l ∈ Ls → l ∉ dn) → (∀ r, AGL σ j (fun x => x ∈ dn ∧ oR σ x (j x) = r)) → (Ws σ Ls dn j ≠ [] ↔ EWp σ (fun x => x ∈ dn) (fun x => x ∈ Ls) j)
  | [], dn, j, hn, hd, ha => by
    constructor
    · intro _
      exact ⟨j, fun _ _ => rfl, fun l hl => by simp at hl, fun r => AGL_sub (ha r) (fun l hl => ⟨by rcases hl.1 with h | h; exact h; simp at h, hl.2⟩)⟩
    · intro _ e
      simp [Ws] at e
  | l :: Ls, dn, j, hn, hd, ha => by
    obtain ⟨hn1, hn2⟩ := List.nodup_cons.mp hn
    have hl : l ∉ dn := hd l List.mem_cons_self
    have hne : ∀ x, x ∈ dn → x ≠ l := fun x hx e => hl (e ▸ hx)
    have hcg : ∀ c x, x ∈ dn → j x = pu j l c x := fun c x hx => (pu_n c (hne x hx)).symm
    have ag : ∀ c, okB σ (l :: dn) l (pu j l c) = true → ∀ r, AGL σ (pu j l c) (fun x => x ∈ l :: dn ∧ oR σ x (pu j l c x) = r) := by
      intro c hc r
      have hk := cl_t.mp hc
      by_cases hr : oR σ l (pu j l c l) = r
      · subst hr; exact hk
      · have h1 := AGL_cg (ha r) (j2 := pu j l c) (fun x hx => hcg c x hx.1)
        refine AGL_sub h1 ?_
        rintro x ⟨hx, hx2⟩
        rcases List.mem_cons.mp hx with rfl | hx
        · exact absurd hx2 hr
        · refine ⟨hx, ?_⟩
          rw [hcg c x hx]
          exact hx2
    have hd2 : ∀ x, x ∈ Ls → x ∉ l :: dn := by
      intro x hx hm
      rcases List.mem_cons.mp hm with rfl | hm
      · exact hn1 hx
      · exact hd x (List.mem_cons_of_mem _ hx) hm
    unfold Ws
    rw [flm_ne]
    constructor
    · rintro ⟨c, _, hc, hf⟩
      by_cases hk : okB σ (l :: dn) l (pu j l c) = true
      · rw [if_pos hk] at hf
        obtain ⟨j2, g1, g2, g3⟩ := (Ws_ne Ls (l :: dn) (pu j l c) hn2 hd2 (ag c hk)).mp hf
        refine ⟨j2, fun x hx => ?_, fun x hx => ?_, fun r => AGL_sub (g3 r) ?_⟩
        · rw [g1 x (List.mem_cons_of_mem _ hx), ← hcg c x hx]
        · rcases List.mem_cons.mp hx with rfl | hx
          · rw [g1 x List.mem_cons_self, pu_s]; omega
          · exact g2 x hx
        · rintro x ⟨hx, hx2⟩
          refine ⟨?_, hx2⟩
          rcases hx with hx | hx
          · exact Or.inl (List.mem_cons_of_mem _ hx)
          · rcases List.mem_cons.mp hx with rfl | hx
            · exact Or.inl List.mem_cons_self
            · exact Or.inr hx
      · rw [if_neg hk] at hf
        exact absurd rfl hf
    · rintro ⟨j2, g1, g2, g3⟩
      have hj : ∀ x, x ∈ l :: dn → j2 x = pu j l (j2 l) x := by
        intro x hx
        rcases List.mem_cons.mp hx with rfl | hx
        · rw [pu_s]
        · rw [← hcg _ x hx, g1 x hx]
      have hk : okB σ (l :: dn) l (pu j l (j2 l)) = true := by
        apply cl_t.mpr
        refine AGL_sub (AGL_cg (S := fun x => x ∈ l :: dn ∧ oR σ x (j2 x) = oR σ l (j2 l)) (AGL_sub (g3 (oR σ l (j2 l))) ?_) (fun x hx => hj x hx.1)) ?_
        · rintro x ⟨hx, hx2⟩
          refine ⟨?_, hx2⟩
          rcases List.mem_cons.mp hx with rfl | hx
          · exact Or.inr List.mem_cons_self
          · exact Or.inl hx
        · rintro x ⟨hx, hx2⟩
          refine ⟨hx, ?_⟩
          rw [hj x hx, hx2, pu_s]
      refine ⟨j2 l, by omega, by have := g2 l List.mem_cons_self; omega, ?_⟩
      rw [if_pos hk]
      refine (Ws_ne Ls (l :: dn) _ hn2 hd2 (ag _ hk)).mpr ⟨j2, hj, fun x hx => g2 x (List.mem_cons_of_mem _ hx), fun r => AGL_sub (g3 r) ?_⟩
      rintro x ⟨hx, hx2⟩
      refine ⟨?_, hx2⟩
      rcases hx with hx | hx
      · rcases List.mem_cons.mp hx with rfl | hx
        · exact Or.inr List.mem_cons_self
        · exact Or.inl hx
      · exact Or.inr (List.mem_cons_of_mem _ hx)
end AGS
