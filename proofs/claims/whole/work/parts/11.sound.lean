theorem run_succ (X : AX) (n d M pc : Nat) (ls st : List Value) (h : AH) : run X (n + 1) d M pc ls st h = match decode (mb M) pc with
    | .error _ => none
    | .ok (i, len) => if lenOK i len = true then (match pstep i ls st with
      | some (ls', st') => run X n d M (pc + len) ls' st' h
      | none => match bstep pc i st with
        | some (pc', st') => run X n d M pc' ls st' h
        | none => match hstep X M i st h with
          | some (st', h') => run X n d M (pc + len) ls st' h'
          | none => match rstep M i st with
            | some r => some (r, h)
            | none => match cstep M i st h with
              | some (N, as, rest) => match d with
                | 0 => none
                | d' + 1 => match run X n d' N 0 (ent as (mL N)) [] h with
                  | some (r, h') => run X n d M (pc + 3) ls (r.toList ++ rest) h'
                  | none => none
              | none => none) else none := by
  rw [run] <;> rfl
def grows (h h' : AH) : Prop := h.1.length ≤ h'.1.length ∧ slC h ≤ slC h'
theorem grows_rf {h : AH} : grows h h := ⟨Nat.le_refl _, Nat.le_refl _⟩
theorem grows_eq {h h' : AH} (e : h'.1 = h.1) : grows h h' := ⟨by rw [e]; exact Nat.le_refl _, by unfold slC; rw [e]; exact Nat.le_refl _⟩
theorem grows_tr {a b c : AH} (h1 : grows a b) (h2 : grows b c) : grows a c := ⟨Nat.le_trans h1.1 h2.1, Nat.le_trans h1.2 h2.2⟩
theorem grows_add {h : AH} {t n : Nat} : grows h (addC h t n) := ⟨by rw [add_len]; omega, by rw [slC_add]; omega⟩
set_option maxHeartbeats 4000000 in
theorem hstep_mono {X : AX} {M : Nat} {i : Instr} {st st' : List Value} {h h' : AH} (hp : hstep X M i st h = some (st', h')) : grows h h' := by
  cases i <;> simp only [hstep, reduceCtorEq] at hp
  case getfield idx =>
    unfold getS at hp
    split at hp
    · split at hp
      · split at hp
        · cases hp; exact grows_rf
        · cases hp
      · cases hp
    · cases hp
  case putfield idx =>
    unfold putS at hp
    split at hp
    · split at hp
      · split at hp
        · rename_i v k r _ t ci j pp hrs hc
          cases hq : putV h k ci j v with
          | none => rw [hq] at hp; cases hp
          | some h2 =>
            rw [hq] at hp
            cases hp
            unfold putV at hq
            split at hq
            · split at hq
              · cases hq; exact grows_eq rfl
              · cases hq
            · split at hq
              · cases hq; exact grows_eq rfl
              · cases hq
            · cases hq
        · cases hp
      · cases hp
    · cases hp
  case iaload =>
    split at hp
    · split at hp
      · split at hp
        · cases hp; exact grows_rf
        · cases hp
      · cases hp
    · split at hp
      · cases hp; exact grows_rf
      · cases hp
    · cases hp
  case laload =>
    split at hp
    · split at hp
      · split at hp
        · cases hp; exact grows_rf
        · cases hp
      · cases hp
    · cases hp
  case baload =>
    split at hp
    · split at hp
      · split at hp
        · cases hp; exact grows_rf
        · cases hp
      · cases hp
    · cases hp
  case iastore =>
    split at hp
    · split at hp
      · split at hp
        · cases hp; exact grows_eq rfl
        · cases hp
      · cases hp
    · cases hp
  case lastore =>
    split at hp
    · split at hp
      · split at hp
        · cases hp; exact grows_eq rfl
        · cases hp
      · cases hp
    · cases hp
  case bastore =>
    split at hp
    · split at hp
      · split at hp
        · cases hp; exact grows_eq rfl
        · cases hp
      · cases hp
    · cases hp
  case arraylength =>
    split at hp
    · cases hp; exact grows_rf
    · cases hp
  case newarray at_ =>
    split at hp
    · split at hp
      · split at hp
        · cases hp; exact grows_add
        · cases hp
      · cases hp
    · cases hp
  case new idx =>
    unfold newS at hp
    split at hp
    · split at hp
      · cases hp; exact grows_add
      · cases hp
    · cases hp
  case ldc idx =>
    unfold conS at hp
    split at hp
    · split at hp
      · cases hp; exact grows_rf
      · cases hp
    · cases hp
  case ldc_w idx =>
    unfold conS at hp
    split at hp
    · split at hp
      · cases hp; exact grows_rf
      · cases hp
    · cases hp
  case ldc2_w idx =>
    unfold con2S at hp
    split at hp
    · split at hp
      · cases hp; exact grows_rf
      · cases hp
    · cases hp
  case invokespecial idx =>
    unfold objS at hp
    split at hp
    · split at hp
      · split at hp
        · cases hp; exact grows_rf
        · cases hp
      · cases hp
    · cases hp
  case invokestatic idx => exact grows_eq (jdk_len hp)
theorem run_grows {X : AX} : ∀ (n d M pc : Nat) (ls st : List Value) (h : AH) (r : Option Value) (h' : AH), run X n d M pc ls st h = some (r, h') → grows h h'
  | 0, d, M, pc, ls, st, h, r, h', e => by simp [run] at e
  | n + 1, d, M, pc, ls, st, h, r, h', e => by
    rw [run_succ] at e
    split at e
    · cases e
    · split at e
      · split at e
        · exact run_grows n _ _ _ _ _ _ _ _ e
        · split at e
          · exact run_grows n _ _ _ _ _ _ _ _ e
          · split at e
            · rename_i hh
              exact grows_tr (hstep_mono hh) (run_grows n _ _ _ _ _ _ _ _ e)
            · split at e
              · cases e; exact grows_rf
              · split at e
                · split at e
                  · cases e
                  · split at e
                    · rename_i hc
                      exact grows_tr (run_grows n _ _ _ _ _ _ _ _ hc) (run_grows n _ _ _ _ _ _ _ _ e)
                    · cases e
                · cases e
      · cases e
theorem in_of_range {f : Nat → Bool} {a k N : Nat} (h : (List.range' a k).all f = true) (h1 : a ≤ N) (h2 : N < a + k) : f N = true := List.all_eq_true.mp h N (by rw [List.mem_range'_1]; omega)
theorem m_ok {N : Nat} (h : N < 219) : mOK N = true := by
  by_cases h1 : N < 40
  · exact in_of_range mts_ok_0 (by omega) (by omega)
  by_cases h2 : N < 80
  · exact in_of_range mts_ok_1 (by omega) (by omega)
  by_cases h3 : N < 120
  · exact in_of_range mts_ok_2 (by omega) (by omega)
  by_cases h4 : N < 160
  · exact in_of_range mts_ok_3 (by omega) (by omega)
  by_cases h5 : N < 200
  · exact in_of_range mts_ok_4 (by omega) (by omega)
  · exact in_of_range mts_ok_5 (by omega) (by omega)
def cdW (M : Nat) : Cond := Cond.code (mn M) (mb M) (mL M) (mr M)
theorem cd_of_range {ps : List Nat} {a k N : Nat} (h : (List.range' a k).map (fun M => some (Cond.code (mn M) (mb M) (mL M) (mr M))) = ps.map (fun i => lw_tbl[i]?)) (h1 : a ≤ N) (h2 : N < a + k) : cdW N ∈ gw := by
  have e : some (cdW N) ∈ (List.range' a k).map (fun M => some (Cond.code (mn M) (mb M) (mL M) (mr M))) := List.mem_map.mpr ⟨N, by rw [List.mem_range'_1]; omega, rfl⟩
  rw [h] at e
  obtain ⟨i, -, hi⟩ := List.mem_map.mp e
  exact gw_of hi rfl
theorem cd_in {N : Nat} (h : N < 219) : cdW N ∈ gw := by
  by_cases h1 : N < 40
  · exact cd_of_range code_ok_0 (by omega) (by omega)
  by_cases h2 : N < 80
  · exact cd_of_range code_ok_1 (by omega) (by omega)
  by_cases h3 : N < 120
  · exact cd_of_range code_ok_2 (by omega) (by omega)
  by_cases h4 : N < 160
  · exact cd_of_range code_ok_3 (by omega) (by omega)
  by_cases h5 : N < 200
  · exact cd_of_range code_ok_4 (by omega) (by omega)
  · exact cd_of_range code_ok_5 (by omega) (by omega)
/-- what the tables say of a method -/
theorem m_facts {N : Nat} (h : N < 219) : .initialized (mn N).cls ∈ gw ∧ (mk N = 0 → .static (mn N) ∈ gw) ∧ (mk N ≠ 0 → .instanceMethod (mn N) ∈ gw) ∧ (mk N = 1 → .selects (mn N).cls (mn N) (mn N) ∈ gw) ∧ (mn N).cls = cn (mc N) ∧ ((mn N).cls ≠ "java/lang/invoke/MethodHandle" ∧ (mn N).cls ≠ "java/lang/invoke/VarHandle" ∧ (parseMethodDescriptor (mn N).desc).map (fun d => d.parameters.length) = some (ma N)) ∧ plainName (mn N).cls = true ∧ mL N ≤ 20 ∧ (mk N = 2 ↔ (mn N).name = "<init>") ∧ (mk N = 2 → mr N = none) := by
  have h0 := m_ok h
  unfold mOK at h0
  simp only [Bool.and_eq_true, Bool.or_eq_true, decide_eq_true_eq, beq_iff_eq, decide_eq_decide] at h0
  obtain ⟨⟨⟨⟨⟨⟨⟨⟨⟨⟨h1, h2⟩, h3⟩, h4⟩, h5⟩, h6⟩, h7⟩, h8⟩, h9⟩, h10⟩, h11⟩ := h0
  refine ⟨gw_of h1 rfl, fun e => ?_, fun e => ?_, fun e => gw_of (h3.resolve_left (fun z => z e)) rfl, h4, ⟨h5.1, h5.2, h6⟩, h7, h8, h10, fun e => h11.resolve_left (fun z => z e)⟩
  · rw [if_pos e] at h2
    exact gw_of h2 rfl
  · rw [if_neg e] at h2
    exact gw_of h2 rfl
def wsM (N : Nat) : List Cond := Cond.code (mn N) (mb N) (mL N) (mr N) :: gw
theorem wsM_good {N : Nat} (h : N < 219) : GoodIn gw (wsM N) := by
  intro w hw
  rcases List.mem_cons.mp hw with rfl | hw
  · exact gw_good _ (cd_in h)
  · exact gw_good _ hw
def rmD (d mc ms : Nat) : Room := { frames := d + 1, cells := mc, slots := ms, locals := 40 * d + 60 }
def QG (N0 b : Nat) (cA : Nat → ClassId) (D : va_G) (r : Option Value) (h' : AH) : Array Value → State → Outcome → State → Prop := fun _ st o t => o = .returned (r.map (cv N0 b)) ∧ va_P D clsL (wl N0 b cA h') t.heap ∧ va_F (fun q => N0 ≤ q) st t
def PG (X : AX) (N0 b : Nat) (cA : Nat → ClassId) (D : va_G) (h : AH) : State → Prop := fun U => U.heap.size = N0 + h.1.length ∧ va_P D clsL (wl N0 b cA h) U.heap ∧ va_K D clsL (tysL cA) U ∧ NW U ∧ va_X b X.1 X.2 U U.heap ∧ b < N0
theorem lsl_len (N0 b : Nat) : ∀ vs : List Value, (lg_sl (vs.map (cv N0 b))).length = (lsl vs).length
  | [] => rfl
  | v :: vs => by
    have ih := lsl_len N0 b vs
    unfold lg_sl lsl at ih ⊢
    rw [List.map_cons, List.flatMap_cons, List.flatMap_cons, List.length_append, List.length_append, ih, cv_cat]
    congr 1
    split <;> rfl
theorem lvl_ent_go (N0 b : Nat) : ∀ (vs : List Value) (i j : Nat) (v : Value) (tl : List Value), (∀ w ∈ tl, w = DUM) → (lsl vs ++ tl)[j]? = some v → isD v = false → (i + j, cv N0 b v) ∈ lv_args i (vs.map (cv N0 b))
  | [], i, j, v, tl, ht, hj, hd => by
    have : v = DUM := ht v (List.mem_of_getElem? (by simpa [lsl] using hj))
    subst this
    simp [isD] at hd
  | w :: vs, i, j, v, tl, ht, hj, hd => by
    have e : lsl (w :: vs) = (if w.category = 2 then [w, DUM] else [w]) ++ lsl vs := by simp [lsl]
    rw [e, List.append_assoc] at hj
    rw [List.map_cons]
    unfold lv_args
    rw [cv_cat]
    by_cases hc : w.category = 2
    · rw [if_pos hc] at hj ⊢
      match j, hj with
      | 0, hj =>
        have : w = v := by simpa using hj
        subst this
        exact List.mem_cons_self
      | 1, hj =>
        have : DUM = v := by simpa using hj
        subst this
        simp [isD] at hd
      | j + 2, hj =>
        have h2 := lvl_ent_go N0 b vs (i + 2) j v tl ht (by simpa using hj) hd
        rw [show i + (j + 2) = i + 2 + j by omega]
        exact List.mem_cons_of_mem _ h2
    · rw [if_neg hc] at hj ⊢
      match j, hj with
      | 0, hj =>
        have : w = v := by simpa using hj
        subst this
        exact List.mem_cons_self
      | j + 1, hj =>
        have h2 := lvl_ent_go N0 b vs (i + 1) j v tl ht (by simpa using hj) hd
        rw [show i + (j + 1) = i + 1 + j by omega]
        exact List.mem_cons_of_mem _ h2
theorem lvl_ent {N0 b n : Nat} {vs : List Value} : ∀ q ∈ lvl N0 b (ent vs n), q ∈ lv_args 0 (vs.map (cv N0 b)) := by
  intro q hq
  obtain ⟨v, h1, h2, h3⟩ := lvl_mem.mp hq
  have h4 := lvl_ent_go N0 b vs 0 q.1 v _ (fun w hw => (List.mem_replicate.mp hw).2) h1 h2
  rw [Nat.zero_add, ← h3] at h4
  exact h4
theorem ent_len {n : Nat} {vs : List Value} (h : (lsl vs).length ≤ n) : (ent vs n).length = n := by
  simp [ent]
  omega
