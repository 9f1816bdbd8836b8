/-! the plain machine's values as the machine's: cell k lies at N0 + k, the script at b; locals -/
def cv (N0 b : Nat) (v : Value) : Value := match v with
  | .ref k => .ref (N0 + k)
  | .float _ => .ref b
  | v => v
theorem cv_cat (N0 b : Nat) (v : Value) : (cv N0 b v).category = v.category := by cases v <;> rfl
theorem cv_cats (N0 b : Nat) (st : List Value) : ((st.map (cv N0 b)).map fun v => v.category) = st.map fun v => v.category := by
  rw [List.map_map]
  exact List.map_congr_left (fun v _ => cv_cat N0 b v)
def lvl (N0 b : Nat) (ls : List Value) : List (Nat × Value) := ls.zipIdx.filterMap (fun q => if isD q.1 = true then none else some (q.2, cv N0 b q.1))
theorem lvl_mem {N0 b : Nat} {ls : List Value} {q : Nat × Value} : q ∈ lvl N0 b ls ↔ ∃ v, ls[q.1]? = some v ∧ isD v = false ∧ q.2 = cv N0 b v := by
  unfold lvl
  rw [List.mem_filterMap]
  constructor
  · rintro ⟨⟨v, i⟩, h1, h2⟩
    have h1 := List.mem_zipIdx_iff_getElem?.mp h1
    by_cases hd : isD v = true
    · simp [hd] at h2
    · simp only [hd] at h2
      have h2 := Option.some.inj h2
      subst h2
      exact ⟨v, h1, by simpa using hd, rfl⟩
  · rintro ⟨v, h1, h2, h3⟩
    refine ⟨(v, q.1), List.mem_zipIdx_iff_getElem?.mpr h1, ?_⟩
    simp only [h2]
    rw [← h3]
    rfl
theorem lv_mono {ls : Array Slot} {n : Nat} {l l' : List (Nat × Value)} (h : lv_has ls n l) (hs : ∀ q ∈ l', q ∈ l) : lv_has ls n l' := ⟨h.1, h.2.1, fun q hq => h.2.2 q (hs q hq)⟩
theorem lvl_at {N0 b n i : Nat} {ls : List Value} {lsC : Array Slot} {v : Value} (h : lv_has lsC n (lvl N0 b ls)) (hv : ls[i]? = some v) (hd : isD v = false) : lsC[i]? = some (.val (cv N0 b v)) := h.2.2 (i, cv N0 b v) (lvl_mem.mpr ⟨v, hv, hd, rfl⟩)
theorem setK_len : ∀ (ls : List Value) (i : Nat) (v : Value), (setK ls i v).length = ls.length
  | [], _, _ => by simp [setK]
  | _ :: _, 0, _ => by simp [setK]
  | [_], 1, _ => by simp [setK]
  | _ :: _ :: _, 1, _ => by simp [setK]
  | a :: l, n + 2, v => by simp [setK, setK_len l (n + 1) v]
theorem setK_get : ∀ (ls : List Value) (i : Nat) (v : Value) (j : Nat), i < ls.length → (setK ls i v)[j]? = if j = i then some v else if j + 1 = i then (ls[j]?).map killL else ls[j]?
  | [], i, v, j, h => by simp at h
  | a :: l, 0, v, j, _ => by cases j <;> simp [setK]
  | [a], 1, v, j, h => by simp at h
  | a :: c :: l, 1, v, j, _ => by
    cases j with
    | zero => simp [setK]
    | succ j => cases j <;> simp [setK]
  | a :: l, n + 2, v, j, h => by
    cases j with
    | zero => simp [setK]
    | succ j =>
      have ih := setK_get l (n + 1) v j (by simp only [List.length_cons] at h; omega)
      simp only [setK, List.getElem?_cons_succ, ih]
      simp
theorem killL_nd {v : Value} (h : isD (killL v) = false) : killL v = v ∧ (cv 0 0 v).category = 1 := by
  cases v <;> simp_all [killL, isD, cv, Value.category]
theorem lvl_set {N0 b i : Nat} {ls : List Value} {v : Value} (hi : i < ls.length) : ∀ q ∈ lvl N0 b (setK ls i v), q ∈ ((i, cv N0 b v) :: (lvl N0 b ls).filter (fun q => !(q.1 == i) && !(q.1 + 1 == i && q.2.category == 2))) := by
  intro q hq
  obtain ⟨w, h1, h2, h3⟩ := lvl_mem.mp hq
  rw [setK_get ls i v q.1 hi] at h1
  by_cases e1 : q.1 = i
  · rw [if_pos e1] at h1
    cases h1
    exact List.mem_cons.mpr (Or.inl (by rw [← e1, ← h3]))
  · rw [if_neg e1] at h1
    refine List.mem_cons.mpr (Or.inr (List.mem_filter.mpr ?_))
    by_cases e2 : q.1 + 1 = i
    · rw [if_pos e2] at h1
      cases hw : ls[q.1]? with
      | none => simp [hw] at h1
      | some u =>
        rw [hw] at h1
        have h1 : killL u = w := by simpa using h1
        subst h1
        obtain ⟨k1, k2⟩ := killL_nd h2
        rw [k1] at h2 h3
        refine ⟨lvl_mem.mpr ⟨u, hw, h2, h3⟩, ?_⟩
        have : q.2.category = 1 := by rw [h3, cv_cat, ← cv_cat 0 0 u]; exact k2
        simp [e1, this]
    · rw [if_neg e2] at h1
      exact ⟨lvl_mem.mpr ⟨w, h1, h2, h3⟩, by simp [e1, e2]⟩
theorem lvl_setL {N0 b i : Nat} {ls : List Value} {v : Value} (hi : i + 1 < ls.length) : ∀ q ∈ lvl N0 b ((setK ls i v).set (i + 1) DUM), q ∈ ((i, cv N0 b v) :: (lvl N0 b ls).filter (fun q => !(q.1 == i) && (!(q.1 == i + 1) && !(q.1 + 1 == i && q.2.category == 2)))) := by
  intro q hq
  obtain ⟨w, h1, h2, h3⟩ := lvl_mem.mp hq
  have hne : q.1 ≠ i + 1 := by
    intro e
    rw [e, List.getElem?_set_self (by rw [setK_len]; exact hi)] at h1
    cases h1
    simp [isD] at h2
  rw [List.getElem?_set_ne (Ne.symm hne)] at h1
  have h4 := lvl_set (N0 := N0) (b := b) (v := v) (show i < ls.length by omega) q (lvl_mem.mpr ⟨w, h1, h2, h3⟩)
  rcases List.mem_cons.mp h4 with h | h
  · exact List.mem_cons.mpr (Or.inl h)
  · obtain ⟨h5, h6⟩ := List.mem_filter.mp h
    refine List.mem_cons.mpr (Or.inr (List.mem_filter.mpr ⟨h5, ?_⟩))
    simp only [Bool.and_eq_true] at h6 ⊢
    exact ⟨h6.1, by simp [hne], h6.2⟩
theorem o2i_inv {ls st ls' st' : List Value} {f : Int32 → Int32 → Value} (h : o2i ls st f = some (ls', st')) : ∃ x y r, st = .int y :: .int x :: r ∧ ls' = ls ∧ st' = f x y :: r := by
  unfold o2i at h
  split at h
  · cases h; exact ⟨_, _, _, rfl, rfl, rfl⟩
  · cases h
theorem o2l_inv {ls st ls' st' : List Value} {f : Int64 → Int64 → Value} (h : o2l ls st f = some (ls', st')) : ∃ x y r, st = .long y :: .long x :: r ∧ ls' = ls ∧ st' = f x y :: r := by
  unfold o2l at h
  split at h
  · cases h; exact ⟨_, _, _, rfl, rfl, rfl⟩
  · cases h
theorem o2s_inv {ls st ls' st' : List Value} {f : Int64 → Int32 → Value} (h : o2s ls st f = some (ls', st')) : ∃ x y r, st = .int y :: .long x :: r ∧ ls' = ls ∧ st' = f x y :: r := by
  unfold o2s at h
  split at h
  · cases h; exact ⟨_, _, _, rfl, rfl, rfl⟩
  · cases h
theorem o1i_inv {ls st ls' st' : List Value} {f : Int32 → Value} (h : o1i ls st f = some (ls', st')) : ∃ x r, st = .int x :: r ∧ ls' = ls ∧ st' = f x :: r := by
  unfold o1i at h
  split at h
  · cases h; exact ⟨_, _, rfl, rfl, rfl⟩
  · cases h
theorem o1l_inv {ls st ls' st' : List Value} {f : Int64 → Value} (h : o1l ls st f = some (ls', st')) : ∃ x r, st = .long x :: r ∧ ls' = ls ∧ st' = f x :: r := by
  unfold o1l at h
  split at h
  · cases h; exact ⟨_, _, rfl, rfl, rfl⟩
  · cases h
theorem ldI_inv {ls st ls' st' : List Value} {i : Nat} (h : ldI ls i st = some (ls', st')) : ∃ x, ls[i]? = some (.int x) ∧ ls' = ls ∧ st' = .int x :: st := by
  unfold ldI at h
  split at h
  · rename_i x hx; cases h; exact ⟨_, hx, rfl, rfl⟩
  · cases h
theorem ldL_inv {ls st ls' st' : List Value} {i : Nat} (h : ldL ls i st = some (ls', st')) : ∃ x, ls[i]? = some (.long x) ∧ ls' = ls ∧ st' = .long x :: st := by
  unfold ldL at h
  split at h
  · rename_i x hx; cases h; exact ⟨_, hx, rfl, rfl⟩
  · cases h
theorem ldA_inv {ls st ls' st' : List Value} {i : Nat} (N0 b : Nat) (h : ldA ls i st = some (ls', st')) : ∃ v a, ls[i]? = some v ∧ isD v = false ∧ cv N0 b v = .ref a ∧ ls' = ls ∧ st' = v :: st := by
  unfold ldA at h
  split at h
  · rename_i x hx; cases h; exact ⟨_, _, hx, rfl, rfl, rfl, rfl⟩
  · rename_i x hx; cases h; exact ⟨_, _, hx, rfl, rfl, rfl, rfl⟩
  · cases h
theorem stI_inv {ls st ls' st' : List Value} {i : Nat} (h : stI ls i st = some (ls', st')) : ∃ x r, st = .int x :: r ∧ i < ls.length ∧ ls' = setK ls i (.int x) ∧ st' = r := by
  unfold stI at h
  split at h
  · split at h
    · rename_i hi; cases h; exact ⟨_, _, rfl, hi, rfl, rfl⟩
    · cases h
  · cases h
theorem stA_inv {ls st ls' st' : List Value} {i : Nat} (h : stA ls i st = some (ls', st')) : ∃ x r, st = .ref x :: r ∧ i < ls.length ∧ ls' = setK ls i (.ref x) ∧ st' = r := by
  unfold stA at h
  split at h
  · split at h
    · rename_i hi; cases h; exact ⟨_, _, rfl, hi, rfl, rfl⟩
    · cases h
  · cases h
theorem stL_inv {ls st ls' st' : List Value} {i : Nat} (h : stL ls i st = some (ls', st')) : ∃ x r, st = .long x :: r ∧ i + 1 < ls.length ∧ ls' = (setK ls i (.long x)).set (i + 1) DUM ∧ st' = r := by
  unfold stL at h
  split at h
  · split at h
    · rename_i hi; cases h; exact ⟨_, _, rfl, hi, rfl, rfl⟩
    · cases h
  · cases h
