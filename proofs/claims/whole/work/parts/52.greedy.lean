/-! giving days one by one, the least first, finds them if there are any -/
def AGx (M : Nat → Prop) (B : Nat → Nat → Prop) (Dm : Nat → Nat) : Prop := ∃ rk dy : Nat → Nat, (∀ b, M b → (Dm b).testBit (dy b) = true) ∧ ∀ a b, M a → M b → B b a → rk a < rk b ∧ dy a ≤ dy b
def GIv (M : Nat → Prop) (B : Nat → Nat → Prop) (Dm : Nat → Nat) (k : Nat) (D : Nat → Prop) (day : Nat → Nat) : Prop :=
  (∀ b, D b → M b) ∧ (∃ rk : Nat → Nat, ∀ b, D b → rk b < k ∧ (Dm b).testBit (day b) = true ∧ ∀ a, M a → B b a → D a ∧ rk a < rk b ∧ day a ≤ day b) ∧
  ∀ rk dy : Nat → Nat, (∀ b, M b → (Dm b).testBit (dy b) = true) → (∀ a b, M a → M b → B b a → rk a < rk b ∧ dy a ≤ dy b) → ∀ b, D b → day b ≤ dy b
section GREEDY
variable {M D : Nat → Prop} {B : Nat → Nat → Prop} {Dm day : Nat → Nat} {k b y : Nat}
theorem GIv_0 (hD : ∀ b, ¬ D b) : GIv M B Dm 0 D day :=
  ⟨fun b h => absurd h (hD b), ⟨fun _ => 0, fun b h => absurd h (hD b)⟩, fun _ _ _ _ b h => absurd h (hD b)⟩
theorem GIv_s {D2 : Nat → Prop} {day2 : Nat → Nat} (h : GIv M B Dm k D day) (hb : M b) (hd : ¬ D b) (hB : ∀ a, M a → B b a → D a) (h1 : (Dm b).testBit y = true) (h2 : ∀ a, M a → B b a → day a ≤ y) (h3 : ∀ z, (Dm b).testBit z = true → (∀ a, M a → B b a → day a ≤ z) → y ≤ z) (e1 : ∀ x, D2 x ↔ D x ∨ x = b) (e2 : day2 b = y) (e3 : ∀ x, D x → day2 x = day x) : GIv M B Dm (k + 1) D2 day2 := by
  obtain ⟨g1, ⟨rk, g2⟩, g3⟩ := h
  have hn : ∀ x, D x → x ≠ b := fun x hx e => hd (e ▸ hx)
  refine ⟨fun x hx => ?_, ⟨fun x => if x = b then k else rk x, fun x hx => ?_⟩, fun rk2 dy2 q1 q2 x hx => ?_⟩
  · rcases (e1 x).mp hx with hx | rfl
    · exact g1 x hx
    · exact hb
  · rcases (e1 x).mp hx with hx | rfl
    · obtain ⟨p1, p2, p3⟩ := g2 x hx
      dsimp only
      rw [if_neg (hn x hx), e3 x hx]
      refine ⟨by omega, p2, fun a ha hxa => ?_⟩
      obtain ⟨r1, r2, r3⟩ := p3 a ha hxa
      rw [if_neg (hn a r1), e3 a r1]
      exact ⟨(e1 a).mpr (Or.inl r1), r2, r3⟩
    · dsimp only
      rw [if_pos rfl, e2]
      refine ⟨by omega, h1, fun a ha hxa => ?_⟩
      have r1 := hB a ha hxa
      rw [if_neg (hn a r1), e3 a r1]
      exact ⟨(e1 a).mpr (Or.inl r1), (g2 a r1).1, h2 a ha hxa⟩
  · rcases (e1 x).mp hx with hx | rfl
    · rw [e3 x hx]
      exact g3 rk2 dy2 q1 q2 x hx
    · rw [e2]
      refine h3 _ (q1 x hb) (fun a ha hxa => ?_)
      have r1 := hB a ha hxa
      exact Nat.le_trans (g3 rk2 dy2 q1 q2 a r1) (q2 a x ha hb hxa).2
theorem GIv_end (h : GIv M B Dm k D day) (he : ∀ b, M b → D b) : AGx M B Dm := by
  obtain ⟨g1, ⟨rk, g2⟩, g3⟩ := h
  refine ⟨rk, day, fun b hb => (g2 b (he b hb)).2.1, fun a b ha hb hab => ?_⟩
  exact ((g2 b (he b hb)).2.2 a ha hab).2
theorem GIv_no1 (hf : ∀ b, M b → ¬ D b → ∃ a, M a ∧ B b a ∧ ¬ D a) (hx : ∃ b, M b ∧ ¬ D b) : ¬ AGx M B Dm := by
  rintro ⟨rk, dy, q1, q2⟩
  have key : ∀ n b, M b → ¬ D b → rk b < n → False := by
    intro n
    induction n with
    | zero => intro b _ _ h; omega
    | succ n ih =>
      intro b hb hd hr
      obtain ⟨a, ha, hab, hda⟩ := hf b hb hd
      exact ih a ha hda (by have := (q2 a b ha hb hab).1; omega)
  obtain ⟨b, hb, hd⟩ := hx
  exact key (rk b + 1) b hb hd (by omega)
theorem GIv_no2 (h : GIv M B Dm k D day) (hb : M b) (hB : ∀ a, M a → B b a → D a) (hf : ∀ z, (Dm b).testBit z = true → ∃ a, M a ∧ B b a ∧ z < day a) : ¬ AGx M B Dm := by
  obtain ⟨g1, ⟨rk, g2⟩, g3⟩ := h
  rintro ⟨rk2, dy2, q1, q2⟩
  obtain ⟨a, ha, hab, hz⟩ := hf _ (q1 b hb)
  have r1 := g3 rk2 dy2 q1 q2 a (hB a ha hab)
  have r2 := (q2 a b ha hb hab).2
  omega
theorem AGx_cg {B2 : Nat → Nat → Prop} {D2 : Nat → Nat} (e1 : ∀ a b, M a → M b → (B b a ↔ B2 b a)) (e2 : ∀ b, M b → Dm b = D2 b) : AGx M B Dm ↔ AGx M B2 D2 := by
  constructor
  · rintro ⟨rk, dy, q1, q2⟩
    exact ⟨rk, dy, fun b hb => by rw [← e2 b hb]; exact q1 b hb, fun a b ha hb hab => q2 a b ha hb ((e1 a b ha hb).mpr hab)⟩
  · rintro ⟨rk, dy, q1, q2⟩
    exact ⟨rk, dy, fun b hb => by rw [e2 b hb]; exact q1 b hb, fun a b ha hb hab => q2 a b ha hb ((e1 a b ha hb).mp hab)⟩
theorem AGL_x {σ : ST} {j : Nat → Nat} {S : Nat → Prop} {f : Nat → Nat} (inj : ∀ a b, M a → M b → f a = f b → a = b) (hS : ∀ l, S l ↔ ∃ b, M b ∧ f b = l) : AGL σ j S ↔ AGx M (fun b a => a ≠ b ∧ oW σ (f a) (j (f a)) &&& oC σ (f b) (j (f b)) ≠ 0) (fun b => oD σ (f b) (j (f b))) := by
  constructor
  · rintro ⟨rk, dy, q1, q2⟩
    refine ⟨fun b => rk (f b), fun b => dy (f b), fun b hb => q1 _ ((hS _).mpr ⟨b, hb, rfl⟩), fun a b ha hb hab => ?_⟩
    exact q2 _ _ ((hS _).mpr ⟨a, ha, rfl⟩) ((hS _).mpr ⟨b, hb, rfl⟩) (fun e => hab.1 (inj a b ha hb e)) hab.2
  · rintro ⟨rk, dy, q1, q2⟩
    have hx : ∀ l, ∃ b, S l → M b ∧ f b = l := by
      intro l
      by_cases h : S l
      · obtain ⟨b, h1, h2⟩ := (hS l).mp h
        exact ⟨b, fun _ => ⟨h1, h2⟩⟩
      · exact ⟨0, fun z => absurd z h⟩
    let iv : Nat → Nat := fun l => Classical.choose (hx l)
    have hiv : ∀ l, S l → M (iv l) ∧ f (iv l) = l := fun l => Classical.choose_spec (hx l)
    refine ⟨fun l => rk (iv l), fun l => dy (iv l), fun l hl => ?_, fun a b ha hb hne hab => ?_⟩
    · obtain ⟨m1, m2⟩ := hiv l hl
      have := q1 _ m1
      dsimp only at this
      rw [m2] at this
      exact this
    · obtain ⟨a1, a2⟩ := hiv a ha
      obtain ⟨b1, b2⟩ := hiv b hb
      refine q2 (iv a) (iv b) a1 b1 ⟨fun e => hne ?_, ?_⟩
      · rw [← a2, ← b2, e]
      · rw [a2, b2]; exact hab
end GREEDY
