set_option maxHeartbeats 4000000 in
/-- THE PLAIN MACHINE IS TRUE TO THE MACHINE -/
theorem sound {l : Launch} {X : AX} {N0 b : Nat} {cA : Nat → ClassId} {D : va_G} : ∀ (n d M pc : Nat) (ls st : List Value) (h : AH) (r : Option Value) (h' : AH), run X n d M pc ls st h = some (r, h') →
    ∀ ⦃p : Program⦄ ⦃e : Env⦄ ⦃R : Room⦄ ⦃s : State⦄ ⦃m : MethodId⦄ ⦃args : Array Value⦄ ⦃below : List Frame⦄ ⦃meth : Method⦄ ⦃c : Code⦄ ⦃lsC : Array Slot⦄ ⦃H : Heap⦄ ⦃locs : List Loc⦄ ⦃cells slots mc1 ms1 : Nat⦄, CX X N0 b cA D p s m args meth c M → d + 1 ≤ R.frames ∧ 40 * d + 60 ≤ R.locals → ls.length = mL M → lv_has lsC (mL M) (lvl N0 b ls) → va_P D clsL (wl N0 b cA h) H → va_S (fun q => N0 ≤ q) s.heap H locs → s.heap.size + cells = N0 + h.1.length → cells + h'.1.length = mc1 + h.1.length → slots + slC h' = ms1 + slC h → mc1 ≤ R.cells → ms1 ≤ R.slots →
      W p l e R s m args below meth c H locs cells slots (MQ below (QG N0 b cA D r h') args s mc1 ms1 (fun q => N0 ≤ q)) (F0 m pc lsC (st.map (cv N0 b)))
  | 0, d, M, pc, ls, st, h, r, h', he => by simp [run] at he
  | n + 1, d, M, pc, ls, st, h, r, h', he => by
    intro p e R s m args below meth c lsC H locs cells slots mc1 ms1 C0 hR hll hl hP hS hsz hmc hms hRc hRs
    obtain ⟨⟨hx, hb, hml, hr, hlk, hown, hin⟩, hts, hnw, hK, hX, hbN, hN⟩ := id C0
    rw [run_succ] at he
    split at he
    · cases he
    · rename_i i len hdg
      split at he
      · rename_i hlen
        split at he
        · rename_i ls' st' hp
          exact snd_p hx hb hdg hlen hp hll hl (fun lsC' h1 h2 => sound n d M _ _ _ _ _ _ he C0 hR h1 h2 hP hS hsz hmc hms hRc hRs)
        · split at he
          · rename_i pc' st' hp
            exact snd_b hx hb hdg hlen hp (sound n d M _ _ _ _ _ _ he C0 hR hll hl hP hS hsz hmc hms hRc hRs)
          · split at he
            · rename_i st' h2 hp
              have hg := run_grows n _ _ _ _ _ _ _ _ he
              have hg2 := hstep_mono hp
              have g1 := hg.1
              have g2 := hg.2
              exact snd_h C0 hdg hlen hp hP hS hl.1 ⟨by omega, by omega⟩ hsz (by omega) (by omega) (fun H1 l1 c1 s1 q1 q2 q3 q4 => sound n d M _ _ _ _ _ _ he C0 hR hll hl q1 q2 (by omega) (by omega) (by omega) hRc hRs)
            · split at he
              · rename_i r2 hp
                cases he
                have e1 : mc1 = cells := by omega
                have e2 : ms1 = slots := by omega
                subst e1
                subst e2
                exact snd_r C0 hdg hlen hp hP hS
              · split at he
                · rename_i N as rest hp
                  split at he
                  · cases he
                  · rename_i d'
                    split at he
                    · rename_i r2 h2 hc
                      have hg1 := run_grows n _ _ _ _ _ _ _ _ hc
                      have hg2 := run_grows n _ _ _ _ _ _ _ _ he
                      have g1 := hg1.1
                      have g2 := hg1.2
                      have g3 := hg2.1
                      have g4 := hg2.2
                      have hMet : N < 219 → (lsl as).length ≤ mL N → Met l (mn N) (wsM N) (rmD d' (h2.1.length - h.1.length) (slC h2 - slC h)) (va_Pc (as.map (cv N0 b)) (PG X N0 b cA D h)) (QG N0 b cA D r2 h2) (h2.1.length - h.1.length) (slC h2 - slC h) (fun q => N0 ≤ q) := by
                        intro hN2 hle
                        obtain ⟨f1, f2, f3, f4, f5, f6, f7, f8, f9, f10⟩ := m_facts hN2
                        refine Met.ofW (cc := mb N) (maxL := mL N) (ret := mr N) f7 rfl ?_
                        intro p e s m args below meth c s₁ B hml hv
                        obtain ⟨rfl, v1, v2, v3, v4, v5, v6⟩ := hv
                        have hts := atoms_spec (ws := wsM N) B.pre
                        have hown : s.vm.findClass (mn N).cls = some m.cls := findClass_of_methodNamed B.named
                        rw [f5] at hown
                        have hnm : meth.name = (mn N).name := (name_of_methodNamed B.named B.method).1
                        have hle2 : (lg_sl (as.map (cv N0 b))).length ≤ mL N := by rw [lsl_len]; exact hle
                        have hl := lv_entry (as.map (cv N0 b)) (n := mL N) hle2
                        rw [lg_entry_eq]
                        exact sound n d' N 0 _ [] h r2 h2 hc ⟨⟨B.exec, B.bytes, hml, B.returns, B.notSynchronized, hown, fun e => hnm.trans (f9.mp e)⟩, fun w hw => hts w (List.mem_cons_of_mem _ hw), v4, v3, v5, v6, by omega⟩ ⟨Nat.le_refl _, Nat.le_refl _⟩ (ent_len hle) (lv_mono hl lvl_ent) v2 va_S.rf (by omega) (by omega) (by omega) (Nat.le_refl _) (Nat.le_refl _)
                      have kk : ∀ (H1 : Heap) (locs1 : List Loc), va_P D clsL (wl N0 b cA h2) H1 → va_S (fun q => N0 ≤ q) s.heap H1 locs1 → W p l e R s m args below meth c H1 locs1 (cells + (h2.1.length - h.1.length)) (slots + (slC h2 - slC h)) (MQ below (QG N0 b cA D r h') args s mc1 ms1 (fun q => N0 ≤ q)) (F0 m (pc + 3) lsC ((r2.toList ++ rest).map (cv N0 b))) :=
                        fun H1 l1 q1 q2 => sound n (d' + 1) M _ _ _ _ _ _ he C0 hR hll hl q1 q2 (by omega) (by omega) (by omega) hRc hRs
                      cases i <;> simp only [cstep, reduceCtorEq] at hp <;> simp only [lenOK, decide_eq_true_eq] at hlen <;> subst hlen
                      case invokestatic idx => exact snd_c C0 hdg (Or.inl ⟨rfl, rfl⟩) hp hP hS hl.1 hR hsz hMet ⟨by omega, by omega⟩ kk
                      case invokevirtual idx => exact snd_c C0 hdg (Or.inr (Or.inl ⟨rfl, rfl⟩)) hp hP hS hl.1 hR hsz hMet ⟨by omega, by omega⟩ kk
                      case invokespecial idx => exact snd_c C0 hdg (Or.inr (Or.inr ⟨rfl, rfl⟩)) hp hP hS hl.1 hR hsz hMet ⟨by omega, by omega⟩ kk
                    · cases he
                · cases he
      · cases he
