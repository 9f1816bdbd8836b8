section SNDP
variable {p : Program} {l : Launch} {e : Env} {R : Room} {s : State} {m : MethodId} {args : Array Value} {below : List Frame} {meth : Method} {c : Code} {H : Heap} {locs : List Loc} {cells slots : Nat} {Q : State → Prop}
set_option maxHeartbeats 4000000 in
theorem snd_p {N0 b nL pc len : Nat} {cc : ByteArray} {i : Instr} {ls ls' st st' : List Value} {lsC : Array Slot} (hx : p.tables.exec = Jvm.exec) (hb : c.code = cc) (hdg : decode cc pc = .ok (i, len)) (hlen : lenOK i len = true) (hp : pstep i ls st = some (ls', st')) (hll : ls.length = nL) (hl : lv_has lsC nL (lvl N0 b ls))
    (kk : ∀ lsC', ls'.length = nL → lv_has lsC' nL (lvl N0 b ls') → W p l e R s m args below meth c H locs cells slots Q (F0 m (pc + len) lsC' (st'.map (cv N0 b)))) : W p l e R s m args below meth c H locs cells slots Q (F0 m pc lsC (st.map (cv N0 b))) := by
  cases i <;> simp only [pstep, reduceCtorEq] at hp <;> simp only [lenOK, decide_eq_true_eq] at hlen <;> subst hlen
  case iconst n => cases hp; exact lv_iconst hx hb hdg rfl (kk _ hll hl)
  case bipush n => cases hp; exact lv_bipush hx hb hdg rfl (kk _ hll hl)
  case sipush n => cases hp; exact lv_sipush hx hb hdg rfl (kk _ hll hl)
  case lconst n => cases hp; exact lv_lconst hx hb hdg rfl (kk _ hll hl)
  case iload_n k => obtain ⟨x, h1, rfl, rfl⟩ := ldI_inv hp; exact lv_iload_n hx hb hdg rfl (lvl_at hl h1 rfl) (kk _ hll hl)
  case iload k => obtain ⟨x, h1, rfl, rfl⟩ := ldI_inv hp; exact lv_iload hx hb hdg (lvl_at hl h1 rfl) (kk _ hll hl)
  case lload_n k => obtain ⟨x, h1, rfl, rfl⟩ := ldL_inv hp; exact lv_lload_n hx hb hdg rfl (lvl_at hl h1 rfl) (kk _ hll hl)
  case lload k => obtain ⟨x, h1, rfl, rfl⟩ := ldL_inv hp; exact lv_lload hx hb hdg (lvl_at hl h1 rfl) (kk _ hll hl)
  case aload_n k =>
    obtain ⟨v, a, h1, h2, h3, rfl, rfl⟩ := ldA_inv N0 b hp
    have h4 := lvl_at hl h1 h2
    rw [h3] at h4
    refine lv_aload_n hx hb hdg rfl h4 ?_
    have h5 := kk _ hll hl
    rw [List.map_cons, h3] at h5
    exact h5
  case aload k =>
    obtain ⟨v, a, h1, h2, h3, rfl, rfl⟩ := ldA_inv N0 b hp
    have h4 := lvl_at hl h1 h2
    rw [h3] at h4
    refine lv_aload hx hb hdg h4 ?_
    have h5 := kk _ hll hl
    rw [List.map_cons, h3] at h5
    exact h5
  case istore_n k => obtain ⟨x, r, rfl, hi, rfl, rfl⟩ := stI_inv hp; exact lv_istore_n hx hb hdg rfl hl (by omega) rfl (fun ls2 h2 => kk _ ((setK_len _ _ _).trans hll) (lv_mono h2 (lvl_set hi)))
  case istore k => obtain ⟨x, r, rfl, hi, rfl, rfl⟩ := stI_inv hp; exact lv_istore hx hb hdg hl (by omega) rfl (fun ls2 h2 => kk _ ((setK_len _ _ _).trans hll) (lv_mono h2 (lvl_set hi)))
  case lstore_n k => obtain ⟨x, r, rfl, hi, rfl, rfl⟩ := stL_inv hp; exact lv_lstore_n hx hb hdg rfl hl (by omega) rfl (fun ls2 h2 => kk _ (by rw [List.length_set]; exact (setK_len _ _ _).trans hll) (lv_mono h2 (lvl_setL hi)))
  case lstore k => obtain ⟨x, r, rfl, hi, rfl, rfl⟩ := stL_inv hp; exact lv_lstore hx hb hdg hl (by omega) rfl (fun ls2 h2 => kk _ (by rw [List.length_set]; exact (setK_len _ _ _).trans hll) (lv_mono h2 (lvl_setL hi)))
  case astore_n k => obtain ⟨x, r, rfl, hi, rfl, rfl⟩ := stA_inv hp; exact lv_astore_n hx hb hdg rfl hl (by omega) rfl (fun ls2 h2 => kk _ ((setK_len _ _ _).trans hll) (lv_mono h2 (lvl_set hi)))
  case astore k => obtain ⟨x, r, rfl, hi, rfl, rfl⟩ := stA_inv hp; exact lv_astore hx hb hdg hl (by omega) rfl (fun ls2 h2 => kk _ ((setK_len _ _ _).trans hll) (lv_mono h2 (lvl_set hi)))
  case iinc k n =>
    split at hp
    · rename_i x hxk
      cases hp
      have hi : k < ls.length := (List.getElem?_eq_some_iff.mp hxk).1
      obtain ⟨j, hj⟩ := List.getElem?_of_mem (lvl_mem (N0 := N0) (b := b) (q := (k, .int x)).mpr ⟨.int x, hxk, rfl, rfl⟩)
      exact lv_iinc hx hb hdg hl hj rfl (by omega) rfl (fun ls2 h2 => kk _ ((setK_len _ _ _).trans hll) (lv_mono h2 (lvl_set hi)))
    · cases hp
  case dup =>
    split at hp
    · split at hp
      · rename_i hc; cases hp; exact lv_dup hx hb hdg (by rw [cv_cat]; exact hc) (kk _ hll hl)
      · cases hp
    · cases hp
  case dup2 =>
    split at hp
    · split at hp
      · rename_i hc; cases hp; exact lv_dup2_11 hx hb hdg (by rw [cv_cat]; exact hc.1) (by rw [cv_cat]; exact hc.2) (kk _ hll hl)
      · cases hp
    · cases hp
  case pop =>
    split at hp
    · split at hp
      · rename_i hc; cases hp; exact lv_pop hx hb hdg (by rw [cv_cat]; exact hc) (kk _ hll hl)
      · cases hp
    · cases hp
  case iadd => obtain ⟨x, y, r, rfl, rfl, rfl⟩ := o2i_inv hp; exact lv_iadd hx hb hdg (kk _ hll hl)
  case isub => obtain ⟨x, y, r, rfl, rfl, rfl⟩ := o2i_inv hp; exact lv_isub hx hb hdg (kk _ hll hl)
  case imul => obtain ⟨x, y, r, rfl, rfl, rfl⟩ := o2i_inv hp; exact lv_imul hx hb hdg (kk _ hll hl)
  case iand => obtain ⟨x, y, r, rfl, rfl, rfl⟩ := o2i_inv hp; exact lv_iand hx hb hdg (kk _ hll hl)
  case ior => obtain ⟨x, y, r, rfl, rfl, rfl⟩ := o2i_inv hp; exact lv_ior hx hb hdg (kk _ hll hl)
  case ixor => obtain ⟨x, y, r, rfl, rfl, rfl⟩ := o2i_inv hp; exact lv_ixor hx hb hdg (kk _ hll hl)
  case ishl => obtain ⟨x, y, r, rfl, rfl, rfl⟩ := o2i_inv hp; exact lv_ishl hx hb hdg (kk _ hll hl)
  case ishr => obtain ⟨x, y, r, rfl, rfl, rfl⟩ := o2i_inv hp; exact lv_ishr hx hb hdg (kk _ hll hl)
  case iushr => obtain ⟨x, y, r, rfl, rfl, rfl⟩ := o2i_inv hp; exact lv_iushr hx hb hdg rfl (kk _ hll hl)
  case idiv =>
    split at hp
    · split at hp
      · cases hp
      · rename_i hc; cases hp; exact lv_idiv hx hb hdg hc (kk _ hll hl)
    · cases hp
  case irem =>
    split at hp
    · split at hp
      · cases hp
      · rename_i hc; cases hp; exact lv_irem hx hb hdg hc (kk _ hll hl)
    · cases hp
  case ladd => obtain ⟨x, y, r, rfl, rfl, rfl⟩ := o2l_inv hp; exact lv_ladd hx hb hdg (kk _ hll hl)
  case lsub => obtain ⟨x, y, r, rfl, rfl, rfl⟩ := o2l_inv hp; exact lv_lsub hx hb hdg (kk _ hll hl)
  case lmul => obtain ⟨x, y, r, rfl, rfl, rfl⟩ := o2l_inv hp; exact lv_lmul hx hb hdg (kk _ hll hl)
  case land => obtain ⟨x, y, r, rfl, rfl, rfl⟩ := o2l_inv hp; exact lv_land hx hb hdg (kk _ hll hl)
  case lor => obtain ⟨x, y, r, rfl, rfl, rfl⟩ := o2l_inv hp; exact lv_lor hx hb hdg (kk _ hll hl)
  case lneg => obtain ⟨x, r, rfl, rfl, rfl⟩ := o1l_inv hp; exact lv_lneg hx hb hdg (kk _ hll hl)
  case lshl => obtain ⟨x, y, r, rfl, rfl, rfl⟩ := o2s_inv hp; exact lv_lshl hx hb hdg rfl (kk _ hll hl)
  case lshr => obtain ⟨x, y, r, rfl, rfl, rfl⟩ := o2s_inv hp; exact lv_lshr hx hb hdg rfl (kk _ hll hl)
  case lushr => obtain ⟨x, y, r, rfl, rfl, rfl⟩ := o2s_inv hp; exact lv_lushr hx hb hdg rfl (kk _ hll hl)
  case lcmp => obtain ⟨x, y, r, rfl, rfl, rfl⟩ := o2l_inv hp; exact W.lcmp hx hb hdg (kk _ hll hl)
  case i2l => obtain ⟨x, r, rfl, rfl, rfl⟩ := o1i_inv hp; exact lv_i2l hx hb hdg rfl (kk _ hll hl)
  case l2i => obtain ⟨x, r, rfl, rfl, rfl⟩ := o1l_inv hp; exact lv_l2i hx hb hdg rfl (kk _ hll hl)
  case i2b => obtain ⟨x, r, rfl, rfl, rfl⟩ := o1i_inv hp; exact lv_i2b hx hb hdg rfl (kk _ hll hl)
  case i2s => obtain ⟨x, r, rfl, rfl, rfl⟩ := o1i_inv hp; exact lv_i2s hx hb hdg rfl (kk _ hll hl)
theorem tgt_inv {pc t : Nat} {off : Int} (h : tgt pc off = some t) : (pc : Int) + off = (t : Int) := by
  unfold tgt at h
  split at h
  · cases h; omega
  · cases h
set_option maxHeartbeats 4000000 in
theorem snd_b {N0 b pc pc' len : Nat} {cc : ByteArray} {i : Instr} {st st' : List Value} {lsC : Array Slot} (hx : p.tables.exec = Jvm.exec) (hb : c.code = cc) (hdg : decode cc pc = .ok (i, len)) (hlen : lenOK i len = true) (hp : bstep pc i st = some (pc', st'))
    (kk : W p l e R s m args below meth c H locs cells slots Q (F0 m pc' lsC (st'.map (cv N0 b)))) : W p l e R s m args below meth c H locs cells slots Q (F0 m pc lsC (st.map (cv N0 b))) := by
  cases i <;> simp only [bstep, reduceCtorEq] at hp
  case ifCond cd off =>
    simp only [lenOK, decide_eq_true_eq] at hlen
    subst hlen
    split at hp
    · rename_i x r
      cases ht : tgt pc off with
      | none => rw [ht] at hp; cases hp
      | some t =>
        rw [ht] at hp
        have ht := tgt_inv ht
        simp only [Option.map_some, Option.some.injEq, Prod.mk.injEq] at hp
        obtain ⟨h1, rfl⟩ := hp
        subst h1
        cases cd
        case eq => exact lv_if_eq hx hb hdg ht (fun h => by simpa [cnd, h] using kk) (fun h => by simpa [cnd, h] using kk)
        case ne => exact lv_if_ne hx hb hdg ht (fun h => by simpa [cnd, h] using kk) (fun h => by simpa [cnd, h] using kk)
        case lt => exact lv_if_lt hx hb hdg ht (fun h => by simp only [cnd, decide_eq_true_eq] at kk; rw [if_pos h] at kk; exact kk) (fun h => by simp only [cnd, decide_eq_true_eq] at kk; rw [if_neg h] at kk; exact kk)
        case ge => exact lv_if_ge hx hb hdg ht (fun h => by simp only [cnd, decide_eq_true_eq] at kk; rw [if_pos h] at kk; exact kk) (fun h => by simp only [cnd, decide_eq_true_eq] at kk; rw [if_neg h] at kk; exact kk)
        case gt => exact lv_if_gt hx hb hdg ht (fun h => by simp only [cnd, decide_eq_true_eq] at kk; rw [if_pos h] at kk; exact kk) (fun h => by simp only [cnd, decide_eq_true_eq] at kk; rw [if_neg h] at kk; exact kk)
        case le => exact lv_if_le hx hb hdg ht (fun h => by simp only [cnd, decide_eq_true_eq] at kk; rw [if_pos h] at kk; exact kk) (fun h => by simp only [cnd, decide_eq_true_eq] at kk; rw [if_neg h] at kk; exact kk)
    · cases hp
  case if_icmp cd off =>
    simp only [lenOK, decide_eq_true_eq] at hlen
    subst hlen
    split at hp
    · rename_i y x r
      cases ht : tgt pc off with
      | none => rw [ht] at hp; cases hp
      | some t =>
        rw [ht] at hp
        have ht := tgt_inv ht
        simp only [Option.map_some, Option.some.injEq, Prod.mk.injEq] at hp
        obtain ⟨h1, rfl⟩ := hp
        subst h1
        cases cd
        case eq => exact lv_icmp_eq hx hb hdg ht (fun h => by simp only [cnd, decide_eq_true_eq] at kk; rw [if_pos h] at kk; exact kk) (fun h => by simp only [cnd, decide_eq_true_eq] at kk; rw [if_neg h] at kk; exact kk)
        case ne => exact lv_icmp_ne hx hb hdg ht (fun h => by simp only [cnd, decide_eq_true_eq] at kk; rw [if_pos h] at kk; exact kk) (fun h => by simp only [cnd, decide_eq_true_eq] at kk; rw [if_neg (fun z => z h)] at kk; exact kk)
        case lt => exact lv_icmp_lt hx hb hdg ht (fun h => by simp only [cnd, decide_eq_true_eq] at kk; rw [if_pos h] at kk; exact kk) (fun h => by simp only [cnd, decide_eq_true_eq] at kk; rw [if_neg h] at kk; exact kk)
        case ge => exact lv_icmp_ge hx hb hdg ht (fun h => by simp only [cnd, decide_eq_true_eq] at kk; rw [if_pos h] at kk; exact kk) (fun h => by simp only [cnd, decide_eq_true_eq] at kk; rw [if_neg h] at kk; exact kk)
        case gt => exact lv_icmp_gt hx hb hdg ht (fun h => by simp only [cnd, decide_eq_true_eq] at kk; rw [if_pos h] at kk; exact kk) (fun h => by simp only [cnd, decide_eq_true_eq] at kk; rw [if_neg h] at kk; exact kk)
        case le => exact lv_icmp_le hx hb hdg ht (fun h => by simp only [cnd, decide_eq_true_eq] at kk; rw [if_pos h] at kk; exact kk) (fun h => by simp only [cnd, decide_eq_true_eq] at kk; rw [if_neg h] at kk; exact kk)
    · cases hp
  case goto off =>
    simp only [lenOK, decide_eq_true_eq] at hlen
    subst hlen
    cases ht : tgt pc off with
    | none => rw [ht] at hp; cases hp
    | some t =>
      rw [ht] at hp
      cases hp
      exact lv_goto hx hb hdg (tgt_inv ht) kk
  case tableswitch dflt lo hi offs =>
    split at hp
    · rename_i x r
      split at hp
      · rename_i hc
        cases ht : tgt pc dflt with
        | none => rw [ht] at hp; cases hp
        | some t =>
          rw [ht] at hp
          cases hp
          exact lv_tableOut hx hb hdg hc (tgt_inv ht) kk
      · rename_i hc
        split at hp
        · rename_i o ho
          cases ht : tgt pc o with
          | none => rw [ht] at hp; cases hp
          | some t =>
            rw [ht] at hp
            cases hp
            exact lv_tableIn hx hb hdg (fun h => hc (Or.inl h)) (fun h => hc (Or.inr h)) ho (tgt_inv ht) kk
        · cases hp
    · cases hp
end SNDP
