theorem run_more {X : AX} : ∀ (n d M pc : Nat) (ls st : List Value) (h : AH) (x : Option Value × AH), run X n d M pc ls st h = some x → run X (n + 1) d M pc ls st h = some x
  | 0, d, M, pc, ls, st, h, x, e => by simp [run] at e
  | n + 1, d, M, pc, ls, st, h, x, e => by
    rw [run_succ] at e
    rw [run_succ]
    cases hdg : decode (mb M) pc with
    | error z => rw [hdg] at e; cases e
    | ok q =>
      obtain ⟨i, len⟩ := q
      rw [hdg] at e
      dsimp only at e ⊢
      by_cases hlen : lenOK i len = true
      · rw [if_pos hlen] at e ⊢
        cases hp : pstep i ls st with
        | some q =>
          rw [hp] at e
          dsimp only at e ⊢
          exact run_more n _ _ _ _ _ _ _ e
        | none =>
          rw [hp] at e
          dsimp only at e ⊢
          cases hp2 : bstep pc i st with
          | some q =>
            rw [hp2] at e
            dsimp only at e ⊢
            exact run_more n _ _ _ _ _ _ _ e
          | none =>
            rw [hp2] at e
            dsimp only at e ⊢
            cases hp3 : hstep X M i st h with
            | some q =>
              rw [hp3] at e
              dsimp only at e ⊢
              exact run_more n _ _ _ _ _ _ _ e
            | none =>
              rw [hp3] at e
              dsimp only at e ⊢
              cases hp4 : rstep M i st with
              | some q =>
                rw [hp4] at e
                exact e
              | none =>
                rw [hp4] at e
                dsimp only at e ⊢
                cases hp5 : cstep M i st h with
                | none => rw [hp5] at e; cases e
                | some q =>
                  obtain ⟨N, as, rest⟩ := q
                  rw [hp5] at e
                  dsimp only at e ⊢
                  cases d with
                  | zero => cases e
                  | succ d =>
                    dsimp only at e ⊢
                    cases hc : run X n d N 0 (ent as (mL N)) [] h with
                    | none => rw [hc] at e; cases e
                    | some q =>
                      rw [hc] at e
                      rw [run_more n _ _ _ _ _ _ _ hc]
                      dsimp only at e ⊢
                      exact run_more n _ _ _ _ _ _ _ e
      · rw [if_neg hlen] at e
        cases e
theorem run_le {X : AX} {d M pc : Nat} {ls st : List Value} {h : AH} {x : Option Value × AH} {n m : Nat} (hnm : n ≤ m) (e : run X n d M pc ls st h = some x) : run X m d M pc ls st h = some x := by
  obtain ⟨k, rfl⟩ : ∃ k, m = n + k := ⟨m - n, by omega⟩
  clear hnm
  induction k with
  | zero => exact e
  | succ k ih => exact run_more _ _ _ _ _ _ _ _ ih
section WPR
variable {X : AX} {d M pc pc' len : Nat} {i : Instr} {ls ls' st st' : List Value} {h h' : AH} {Q Q' : Option Value → AH → Prop}
theorem wp_of_run (e : ∀ n, run X (n + 1) d M pc ls st h = run X n d M pc' ls' st' h') : wp X d M pc ls st h Q = wp X d M pc' ls' st' h' Q := by
  apply propext
  constructor
  · rintro ⟨n, r, h2, h3, h4⟩
    cases n with
    | zero => simp [run] at h3
    | succ n => exact ⟨n, r, h2, by rw [← e]; exact h3, h4⟩
  · rintro ⟨n, r, h2, h3, h4⟩
    exact ⟨n + 1, r, h2, by rw [e]; exact h3, h4⟩
theorem wp_p (hd : decode (mb M) pc = .ok (i, len)) (hl : lenOK i len = true) (hp : pstep i ls st = some (ls', st')) : wp X d M pc ls st h Q = wp X d M (pc + len) ls' st' h Q :=
  wp_of_run (fun n => by rw [run_succ]; simp only [hd, hl, hp, if_true])
theorem wp_b (hd : decode (mb M) pc = .ok (i, len)) (hl : lenOK i len = true) (hp : pstep i ls st = none) (hb : bstep pc i st = some (pc', st')) : wp X d M pc ls st h Q = wp X d M pc' ls st' h Q :=
  wp_of_run (fun n => by rw [run_succ]; simp only [hd, hl, hp, hb, if_true])
theorem wp_h (hd : decode (mb M) pc = .ok (i, len)) (hl : lenOK i len = true) (hp : pstep i ls st = none) (hb : bstep pc i st = none) (hh : hstep X M i st h = some (st', h')) : wp X d M pc ls st h Q = wp X d M (pc + len) ls st' h' Q :=
  wp_of_run (fun n => by rw [run_succ]; simp only [hd, hl, hp, hb, hh, if_true])
theorem wp_r {r : Option Value} (hd : decode (mb M) pc = .ok (i, len)) (hl : lenOK i len = true) (hp : pstep i ls st = none) (hb : bstep pc i st = none) (hh : hstep X M i st h = none) (hr : rstep M i st = some r) : wp X d M pc ls st h Q = Q r h := by
  have e : ∀ n, run X (n + 1) d M pc ls st h = some (r, h) := fun n => by rw [run_succ]; simp only [hd, hl, hp, hb, hh, hr, if_true]
  apply propext
  constructor
  · rintro ⟨n, r2, h2, h3, h4⟩
    cases n with
    | zero => simp [run] at h3
    | succ n =>
      rw [e] at h3
      cases h3
      exact h4
  · intro h4
    exact ⟨1, r, h, e 0, h4⟩
theorem wp_c {N : Nat} {as rest : List Value} (hd : decode (mb M) pc = .ok (i, len)) (hl : lenOK i len = true) (hp : pstep i ls st = none) (hb : bstep pc i st = none) (hh : hstep X M i st h = none) (hr : rstep M i st = none) (hc : cstep M i st h = some (N, as, rest)) : wp X (d + 1) M pc ls st h Q = cwp X d N as h (fun r h' => wp X (d + 1) M (pc + 3) ls (r.toList ++ rest) h' Q) := by
  have e : ∀ n, run X (n + 1) (d + 1) M pc ls st h = match run X n d N 0 (ent as (mL N)) [] h with
                  | some (r, h') => run X n (d + 1) M (pc + 3) ls (r.toList ++ rest) h'
                  | none => none := fun n => by rw [run_succ]; simp only [hd, hl, hp, hb, hh, hr, hc, if_true] <;> rfl
  apply propext
  constructor
  · rintro ⟨n, r2, h2, h3, h4⟩
    cases n with
    | zero => simp [run] at h3
    | succ n =>
      rw [e] at h3
      split at h3
      · rename_i r1 h1 hc1
        exact ⟨n, r1, h1, hc1, n, r2, h2, h3, h4⟩
      · cases h3
  · rintro ⟨n, r1, h1, hc1, k, r2, h2, h3, h4⟩
    refine ⟨(n + k) + 1, r2, h2, ?_, h4⟩
    rw [e, run_le (show n ≤ n + k by omega) hc1]
    exact run_le (by omega) h3
theorem wp_mono (hw : wp X d M pc ls st h Q) (hq : ∀ r h', Q r h' → Q' r h') : wp X d M pc ls st h Q' := by
  obtain ⟨n, r, h', h1, h2⟩ := hw
  exact ⟨n, r, h', h1, hq r h' h2⟩
theorem cwp_mono {as : List Value} (hw : cwp X d M as h Q) (hq : ∀ r h', Q r h' → Q' r h') : cwp X d M as h Q' := wp_mono hw hq
end WPR
