/-! who can follow, plainly -/
def inF (Ls : List Nat) (s f l : Nat) : Prop := ∃ p, f ≤ p ∧ p < Ls.length ∧ s.testBit p = true ∧ l = Ls.getD p 0
def inA (Ls : List Nat) (a l : Nat) : Prop := ∃ q, a.testBit q = true ∧ l = Ls.getD q 0
section FOL
variable {σ : ST} {Ls : List Nat} {j : Nat → Nat} {a P r : Nat} {A B S T : Nat → Prop}
theorem CTP_sub (h : CTP σ A S j r) (hs : ∀ l, T l → S l) : CTP σ A T j r := by
  obtain ⟨j2, h1, h2, h3⟩ := h
  refine ⟨j2, h1, fun l hl => h2 l (hs l hl), AGL_sub h3 (fun l hl => ?_)⟩
  rcases hl with hl | hl
  · exact Or.inl hl
  · exact Or.inr (hs l hl)
theorem CTP_cg {j3 : Nat → Nat} (hA : ∀ l, A l ∧ oR σ l (j l) = r ↔ B l ∧ oR σ l (j3 l) = r) (hj : ∀ l, A l → oR σ l (j l) = r → j3 l = j l) (hS : ∀ l, S l ↔ T l) : CTP σ A S j r ↔ CTP σ B T j3 r := by
  constructor
  · rintro ⟨j2, h1, h2, h3⟩
    refine ⟨j2, fun l h4 h5 => ?_, fun l hl => h2 l ((hS l).mpr hl), AGL_sub h3 (fun l hl => ?_)⟩
    · obtain ⟨h6, h7⟩ := (hA l).mpr ⟨h4, h5⟩
      rw [h1 l h6 h7, hj l h6 h7]
    · rcases hl with hl | hl
      · exact Or.inl ((hA l).mpr hl)
      · exact Or.inr ((hS l).mpr hl)
  · rintro ⟨j2, h1, h2, h3⟩
    refine ⟨j2, fun l h4 h5 => ?_, fun l hl => h2 l ((hS l).mp hl), AGL_sub h3 (fun l hl => ?_)⟩
    · obtain ⟨h6, h7⟩ := (hA l).mp ⟨h4, h5⟩
      rw [h1 l h6 h7, hj l h4 h5]
    · rcases hl with hl | hl
      · exact Or.inl ((hA l).mp hl)
      · exact Or.inr ((hS l).mp hl)
theorem AGM_A : AGM σ Ls j a r ↔ AGL σ j (fun l => inA Ls a l ∧ oR σ l (j l) = r) := by
  unfold AGM inA
  refine AGL_iff (fun l => ?_)
  constructor
  · rintro ⟨q, h1, rfl⟩
    obtain ⟨m1, m2⟩ := mbr_a h1
    exact ⟨⟨q, m1, rfl⟩, m2⟩
  · rintro ⟨⟨q, h1, rfl⟩, h2⟩
    exact ⟨q, by unfold mbr; rw [Bool.and_eq_true, decide_eq_true_eq]; exact ⟨h1, h2⟩, rfl⟩
theorem CTP_0 (h : AGM σ Ls j a r) (hS : ∀ l, ¬ S l) : CTP σ (inA Ls a) S j r :=
  ⟨j, fun _ _ _ => rfl, fun l hl => absurd hl (hS l), AGL_sub (AGM_A.mp h) (fun l hl => by rcases hl with hl | hl; exact hl; exact absurd hl (hS l))⟩
theorem CTP_A (h : CTP σ (inA Ls a) S j r) : AGM σ Ls j a r := by
  obtain ⟨j2, h1, h2, h3⟩ := h
  exact AGM_A.mpr (AGL_cg (AGL_sub h3 (fun l hl => Or.inl hl)) (fun l hl => h1 l hl.1 hl.2))
/-- one place more -/
theorem CTP_step (nd : Ls.Nodup) (al : a < 2 ^ Ls.length) (hP : P < Ls.length) (haP : ¬ a.testBit P = true) (hr : r < 6) (hS : S (Ls.getD P 0)) (hT : ∀ l, T l ↔ S l ∧ l ≠ Ls.getD P 0) :
    CTP σ (inA Ls a) S j r ↔ ∃ i, on σ (Ls.getD P 0) r ≤ i ∧ i < on σ (Ls.getD P 0) (r + 1) ∧ AGM σ Ls (pu j (Ls.getD P 0) i) (a ||| 2 ^ P) r ∧ CTP σ (inA Ls (a ||| 2 ^ P)) T (pu j (Ls.getD P 0) i) r := by
  have hne : ∀ l, inA Ls a l → l ≠ Ls.getD P 0 := by
    rintro l ⟨q, h1, rfl⟩ e
    have := gD_inj nd (a_lt al h1) hP e
    subst this
    exact haP h1
  have hA : ∀ l, inA Ls (a ||| 2 ^ P) l ↔ inA Ls a l ∨ l = Ls.getD P 0 := by
    intro l
    constructor
    · rintro ⟨q, h1, rfl⟩
      rw [or_tb, Bool.or_eq_true, decide_eq_true_eq] at h1
      rcases h1 with h1 | h1
      · exact Or.inl ⟨q, h1, rfl⟩
      · subst h1; exact Or.inr rfl
    · rintro (⟨q, h1, rfl⟩ | rfl)
      · exact ⟨q, by rw [or_tb, h1]; rfl, rfl⟩
      · exact ⟨P, by rw [or_tb]; simp, rfl⟩
  constructor
  · rintro ⟨j2, h1, h2, h3⟩
    obtain ⟨p1, p2⟩ := h2 _ hS
    obtain ⟨q1, q2⟩ := (op_ring hr p1).mp p2
    have key : ∀ l, (inA Ls (a ||| 2 ^ P) l ∧ oR σ l (pu j (Ls.getD P 0) (j2 (Ls.getD P 0)) l) = r) → j2 l = pu j (Ls.getD P 0) (j2 (Ls.getD P 0)) l ∧ ((inA Ls a l ∧ oR σ l (j l) = r) ∨ S l) := by
      rintro l ⟨h4, h5⟩
      rcases (hA l).mp h4 with h6 | h6
      · rw [pu_n _ (hne l h6)] at h5 ⊢
        exact ⟨h1 l h6 h5, Or.inl ⟨h6, h5⟩⟩
      · subst h6
        rw [pu_s]
        exact ⟨rfl, Or.inr hS⟩
    have ct : CTP σ (inA Ls (a ||| 2 ^ P)) T (pu j (Ls.getD P 0) (j2 (Ls.getD P 0))) r := by
      refine ⟨j2, fun l h4 h5 => (key l ⟨h4, h5⟩).1, fun l hl => h2 l ((hT l).mp hl).1, AGL_sub h3 (fun l hl => ?_)⟩
      rcases hl with hl | hl
      · exact (key l hl).2
      · exact Or.inr ((hT l).mp hl).1
    exact ⟨j2 (Ls.getD P 0), q1, q2, CTP_A ct, ct⟩
  · rintro ⟨i, q1, q2, _, j2, h1, h2, h3⟩
    have i6 : i < on σ (Ls.getD P 0) 6 := Nat.lt_of_lt_of_le q2 (on_mono2 (by omega))
    have iR : oR σ (Ls.getD P 0) i = r := (op_ring hr i6).mpr ⟨q1, q2⟩
    have jP : j2 (Ls.getD P 0) = i := by
      have := h1 (Ls.getD P 0) ((hA _).mpr (Or.inr rfl)) (by rw [pu_s]; exact iR)
      rw [pu_s] at this
      exact this
    refine ⟨j2, fun l h4 h5 => ?_, fun l hl => ?_, AGL_sub h3 (fun l hl => ?_)⟩
    · have := h1 l ((hA l).mpr (Or.inl h4)) (by rw [pu_n _ (hne l h4)]; exact h5)
      rw [pu_n _ (hne l h4)] at this
      exact this
    · by_cases e : l = Ls.getD P 0
      · subst e
        rw [jP]
        exact ⟨i6, iR⟩
      · exact h2 l ((hT l).mpr ⟨hl, e⟩)
    · rcases hl with ⟨h4, h5⟩ | hl
      · exact Or.inl ⟨(hA l).mpr (Or.inl h4), by rw [pu_n _ (hne l h4)]; exact h5⟩
      · by_cases e : l = Ls.getD P 0
        · subst e
          exact Or.inl ⟨(hA _).mpr (Or.inr rfl), by rw [pu_s]; exact iR⟩
        · exact Or.inr ((hT l).mpr ⟨hl, e⟩)
/-- the places of a set, from one on, can be led to rings besides those taken -/
def CFl (σ : ST) (Ls : List Nat) (A : Nat → Prop) (j : Nat → Nat) (tk : Nat → Nat) (s f : Nat) : Prop := ∃ fr : Nat → Nat, (∀ p, f ≤ p → p < Ls.length → s.testBit p = true → fr p < 6) ∧ ∀ r, r < 6 → CTP σ A (fun l => inF Ls (tk r) 0 l ∨ ∃ p, f ≤ p ∧ p < Ls.length ∧ s.testBit p = true ∧ fr p = r ∧ l = Ls.getD p 0) j r
theorem CFl_0 {tk : Nat → Nat} {s f : Nat} (h : ∀ r, r < 6 → CTP σ A (inF Ls (tk r) 0) j r) (hn : ∀ p, f ≤ p → p < Ls.length → ¬ s.testBit p = true) : CFl σ Ls A j tk s f :=
  ⟨fun _ => 0, fun p h1 h2 h3 => absurd h3 (hn p h1 h2), fun r hr => CTP_sub (h r hr) (fun l hl => by
    rcases hl with hl | ⟨p, h1, h2, h3, _⟩
    · exact hl
    · exact absurd h3 (hn p h1 h2))⟩
theorem CFl_step {tk : Nat → Nat} {s f : Nat} (hf : f ≤ P) (hP : P < Ls.length) (hs : s.testBit P = true) (hn : ∀ p, f ≤ p → p < P → ¬ s.testBit p = true) :
    CFl σ Ls A j tk s f ↔ ∃ r, r < 6 ∧ CTP σ A (inF Ls (tk r ||| 2 ^ P) 0) j r ∧ CFl σ Ls A j (pu tk r (tk r ||| 2 ^ P)) s (P + 1) := by
  have hor : ∀ r l, inF Ls (tk r ||| 2 ^ P) 0 l ↔ inF Ls (tk r) 0 l ∨ l = Ls.getD P 0 := by
    intro r l
    constructor
    · rintro ⟨p, h1, h2, h3, rfl⟩
      rw [or_tb, Bool.or_eq_true, decide_eq_true_eq] at h3
      rcases h3 with h3 | h3
      · exact Or.inl ⟨p, h1, h2, h3, rfl⟩
      · subst h3; exact Or.inr rfl
    · rintro (⟨p, h1, h2, h3, rfl⟩ | rfl)
      · exact ⟨p, h1, h2, by rw [or_tb, h3]; rfl, rfl⟩
      · exact ⟨P, by omega, hP, by rw [or_tb]; simp, rfl⟩
  constructor
  · rintro ⟨fr, h1, h2⟩
    refine ⟨fr P, h1 P hf hP hs, CTP_sub (h2 _ (h1 P hf hP hs)) (fun l hl => ?_), fr, fun p h3 h4 h5 => h1 p (by omega) h4 h5, fun r hr => CTP_sub (h2 r hr) (fun l hl => ?_)⟩
    · rcases (hor _ l).mp hl with hl | rfl
      · exact Or.inl hl
      · exact Or.inr ⟨P, hf, hP, hs, rfl, rfl⟩
    · rcases hl with hl | ⟨p, h3, h4, h5, h6, h7⟩
      · by_cases e : r = fr P
        · subst e
          rw [pu_s] at hl
          rcases (hor _ l).mp hl with hl | rfl
          · exact Or.inl hl
          · exact Or.inr ⟨P, hf, hP, hs, rfl, rfl⟩
        · rw [pu_n _ e] at hl
          exact Or.inl hl
      · exact Or.inr ⟨p, by omega, h4, h5, h6, h7⟩
  · rintro ⟨r0, hr0, _, fr, h1, h2⟩
    refine ⟨pu fr P r0, fun p h3 h4 h5 => ?_, fun r hr => CTP_sub (h2 r hr) (fun l hl => ?_)⟩
    · by_cases e : p = P
      · subst e; rw [pu_s]; exact hr0
      · rw [pu_n _ e]
        by_cases hlt : p < P
        · exact absurd h5 (hn p h3 hlt)
        · exact h1 p (by omega) h4 h5
    · rcases hl with hl | ⟨p, h3, h4, h5, h6, h7⟩
      · refine Or.inl ?_
        by_cases e : r = r0
        · subst e; rw [pu_s]; exact (hor _ l).mpr (Or.inl hl)
        · rw [pu_n _ e]; exact hl
      · by_cases e : p = P
        · subst e
          rw [pu_s] at h6
          subst h6
          rw [pu_s]
          exact Or.inl ((hor _ l).mpr (Or.inr h7))
        · rw [pu_n _ e] at h6
          by_cases hlt : p < P
          · exact absurd h5 (hn p h3 hlt)
          · exact Or.inr ⟨p, by omega, h4, h5, h6, h7⟩
/-- together, it is a way -/
theorem CFl_EW {s : Nat} (nd : Ls.Nodup) (hA : ∀ l, A l → oR σ l (j l) < 6) (hAs : ∀ l, A l → ¬ inF Ls s 0 l) : CFl σ Ls A j (fun _ => 0) s 0 ↔ EWp σ A (inF Ls s 0) j := by
  have h0 : ∀ l, ¬ inF Ls 0 0 l := by
    rintro l ⟨p, _, _, h, _⟩
    simp at h
  constructor
  · rintro ⟨fr, h1, h2⟩
    have hx : ∀ r, ∃ j2 : Nat → Nat, r < 6 → (∀ l, A l → oR σ l (j l) = r → j2 l = j l) ∧ (∀ l, (inF Ls 0 0 l ∨ ∃ p, 0 ≤ p ∧ p < Ls.length ∧ s.testBit p = true ∧ fr p = r ∧ l = Ls.getD p 0) → j2 l < on σ l 6 ∧ oR σ l (j2 l) = r) ∧ AGL σ j2 (fun l => (A l ∧ oR σ l (j l) = r) ∨ (inF Ls 0 0 l ∨ ∃ p, 0 ≤ p ∧ p < Ls.length ∧ s.testBit p = true ∧ fr p = r ∧ l = Ls.getD p 0)) := by
      intro r
      by_cases hr : r < 6
      · obtain ⟨j2, g⟩ := h2 r hr
        exact ⟨j2, fun _ => g⟩
      · exact ⟨j, fun z => absurd z hr⟩
    let jr : Nat → Nat → Nat := fun r => Classical.choose (hx r)
    have hjr : ∀ r, r < 6 → _ := fun r => Classical.choose_spec (hx r)
    have hpl : ∀ l, ∃ p, inF Ls s 0 l → p < Ls.length ∧ s.testBit p = true ∧ l = Ls.getD p 0 := by
      intro l
      by_cases h : inF Ls s 0 l
      · obtain ⟨p, _, q1, q2, q3⟩ := h
        exact ⟨p, fun _ => ⟨q1, q2, q3⟩⟩
      · exact ⟨0, fun z => absurd z h⟩
    let pl_ : Nat → Nat := fun l => Classical.choose (hpl l)
    have hpl2 : ∀ l, inF Ls s 0 l → pl_ l < Ls.length ∧ s.testBit (pl_ l) = true ∧ l = Ls.getD (pl_ l) 0 := fun l => Classical.choose_spec (hpl l)
    let rg : Nat → Nat := fun l => @ite _ (inF Ls s 0 l) (Classical.propDecidable _) (fr (pl_ l)) (oR σ l (j l))
    have rgS : ∀ l, inF Ls s 0 l → rg l = fr (pl_ l) := fun l h => by
      show @ite _ _ (Classical.propDecidable _) _ _ = _
      rw [if_pos h]
    have rgA : ∀ l, ¬ inF Ls s 0 l → rg l = oR σ l (j l) := fun l h => by
      show @ite _ _ (Classical.propDecidable _) _ _ = _
      rw [if_neg h]
    -- the row of all
    have all : ∀ l, A l ∨ inF Ls s 0 l → rg l < 6 ∧ oR σ l (jr (rg l) l) = rg l ∧ ((A l ∧ oR σ l (j l) = rg l) ∨ (inF Ls 0 0 l ∨ ∃ p, 0 ≤ p ∧ p < Ls.length ∧ s.testBit p = true ∧ fr p = rg l ∧ l = Ls.getD p 0)) := by
      intro l hl
      by_cases hS : inF Ls s 0 l
      · obtain ⟨q1, q2, q3⟩ := hpl2 l hS
        have r6 := h1 (pl_ l) (by omega) q1 q2
        rw [rgS l hS]
        have hm : inF Ls 0 0 l ∨ ∃ p, 0 ≤ p ∧ p < Ls.length ∧ s.testBit p = true ∧ fr p = fr (pl_ l) ∧ l = Ls.getD p 0 := Or.inr ⟨pl_ l, by omega, q1, q2, rfl, q3⟩
        exact ⟨r6, ((hjr _ r6).2.1 l hm).2, Or.inr hm⟩
      · have hAl : A l := by
          rcases hl with hl | hl
          · exact hl
          · exact absurd hl hS
        rw [rgA l hS]
        have r6 := hA l hAl
        refine ⟨r6, ?_, Or.inl ⟨hAl, rfl⟩⟩
        have e9 : jr (oR σ l (j l)) l = j l := (hjr _ r6).1 l hAl rfl
        rw [e9]
    refine ⟨fun l => jr (rg l) l, fun l hl => ?_, fun l hl => ?_, fun r => ?_⟩
    · have e := rgA l (hAs l hl)
      show jr (rg l) l = j l
      rw [e]
      exact (hjr _ (hA l hl)).1 l hl rfl
    · obtain ⟨q1, q2, q3⟩ := hpl2 l hl
      have r6 := h1 (pl_ l) (by omega) q1 q2
      show jr (rg l) l < _
      rw [rgS l hl]
      exact ((hjr _ r6).2.1 l (Or.inr ⟨pl_ l, by omega, q1, q2, rfl, q3⟩)).1
    · by_cases hr : r < 6
      · refine AGL_cg (AGL_sub (hjr r hr).2.2 (T := fun l => (A l ∨ inF Ls s 0 l) ∧ oR σ l (jr (rg l) l) = r) (fun l hl => ?_)) (fun l hl => ?_)
        · obtain ⟨z1, z2, z3⟩ := all l hl.1
          have e : rg l = r := by rw [← z2]; exact hl.2
          rw [e] at z3
          exact z3
        · obtain ⟨z1, z2, z3⟩ := all l hl.1
          have e : rg l = r := by rw [← z2]; exact hl.2
          rw [e]
      · refine AGL_0 (fun l hl => ?_)
        obtain ⟨z1, z2, z3⟩ := all l hl.1
        have e : rg l = r := by rw [← z2]; exact hl.2
        omega
  · rintro ⟨j2, h1, h2, h3⟩
    refine ⟨fun p => oR σ (Ls.getD p 0) (j2 (Ls.getD p 0)), fun p q1 q2 q3 => (op_ok (h2 _ ⟨p, q1, q2, q3, rfl⟩)).1, fun r hr => ⟨j2, fun l hl _ => h1 l hl, fun l hl => ?_, AGL_sub (h3 r) (fun l hl => ?_)⟩⟩
    · rcases hl with hl | ⟨p, q1, q2, q3, q4, rfl⟩
      · exact absurd hl (h0 l)
      · exact ⟨h2 _ ⟨p, q1, q2, q3, rfl⟩, q4⟩
    · rcases hl with ⟨hl, e⟩ | hl | ⟨p, q1, q2, q3, q4, rfl⟩
      · exact ⟨Or.inl hl, by rw [h1 l hl]; exact e⟩
      · exact absurd hl (h0 l)
      · exact ⟨Or.inr ⟨p, q1, q2, q3, rfl⟩, q4⟩
theorem EWp_sub (h : EWp σ A S j) (hs : ∀ l, T l → S l) : EWp σ A T j := by
  obtain ⟨j2, h1, h2, h3⟩ := h
  refine ⟨j2, h1, fun l hl => h2 l (hs l hl), fun r => AGL_sub (h3 r) (fun l hl => ⟨?_, hl.2⟩)⟩
  rcases hl.1 with h | h
  · exact Or.inl h
  · exact Or.inr (hs l h)
end FOL
