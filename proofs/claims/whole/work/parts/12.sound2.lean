section SND
variable {p : Program} {l : Launch} {e : Env} {R : Room} {s : State} {m : MethodId} {args : Array Value} {below : List Frame} {meth : Method} {c : Code} {H : Heap} {locs : List Loc} {cells slots : Nat} {Q : State → Prop}
variable {X : AX} {N0 b M pc idx : Nat} {cA : Nat → ClassId} {D : va_G} {lsC : Array Slot} {st st' : List Value} {h h' : AH}
theorem snd_r {i : Instr} {len : Nat} {r : Option Value} (C0 : CX X N0 b cA D p s m args meth c M) (hdg : decode (mb M) pc = .ok (i, len)) (hlen : lenOK i len = true) (hp : rstep M i st = some r) (hP : va_P D clsL (wl N0 b cA h) H) (hS : va_S (fun q => N0 ≤ q) s.heap H locs) :
    W p l e R s m args below meth c H locs cells slots (MQ below (QG N0 b cA D r h) args s cells slots (fun q => N0 ≤ q)) (F0 m pc lsC (st.map (cv N0 b))) := by
  obtain ⟨⟨hx, hb, hml, hr, hlk, hown, hin⟩, hts, hnw, hK, hX, hbN, hN⟩ := C0
  cases i <;> simp only [rstep, reduceCtorEq] at hp <;> simp only [lenOK, decide_eq_true_eq] at hlen <;> subst hlen
  case ireturn =>
    split at hp
    · rename_i v
      split at hp
      · rename_i hc
        cases hp
        rcases hc with hc | ⟨hc, hv⟩
        · exact W.iret hx hb (hr.trans hc) (fun t ht hW => ⟨rfl, by rw [ht]; exact hP, hS.F ht⟩) hS.2.2 hdg hlk
        · exact W.zret hx hb (hr.trans hc) (by rcases hv with rfl | rfl <;> rfl) (fun t ht hW => ⟨rfl, by rw [ht]; exact hP, hS.F ht⟩) hS.2.2 hdg hlk
      · cases hp
    · cases hp
  case lreturn =>
    split at hp
    · rename_i v
      split at hp
      · rename_i hc
        cases hp
        exact W.lret hx hb (hr.trans hc) (fun t ht hW => ⟨rfl, by rw [ht]; exact hP, hS.F ht⟩) hS.2.2 hdg hlk
      · cases hp
    · cases hp
  case return_ =>
    split at hp
    · split at hp
      · rename_i hc
        cases hp
        exact W.vret hx hb (hr.trans hc) (fun t ht hW => ⟨rfl, by rw [ht]; exact hP, hS.F ht⟩) hS.2.2 hdg hlk
      · cases hp
    · cases hp
/-- behind a call -/
theorem callG {r : Option Value} {a : Array Value} {mc1 ms1 : Nat} {st0 rest : List Value} (hr : va_Run p l e R s m args below meth c H locs cells slots mc1 ms1 (F0 m pc lsC st0) rest (QG N0 b cA D r h' a) (fun q => N0 ≤ q)) (hS : va_S (fun q => N0 ≤ q) s.heap H locs)
    (kk : ∀ (H1 : Heap) (locs1 : List Loc), va_P D clsL (wl N0 b cA h') H1 → va_S (fun q => N0 ≤ q) s.heap H1 locs1 → W p l e R s m args below meth c H1 locs1 (cells + mc1) (slots + ms1) Q (F0 m (pc + 3) lsC ((r.map (cv N0 b)).toList ++ rest))) : W p l e R s m args below meth c H locs cells slots Q (F0 m pc lsC st0) := by
  intro T hT Y
  obtain ⟨v, st₀, t, T', L, h0, X', hL, e1, e2, ⟨hv, hp, hz, hk⟩, st⟩ := hr T hT Y
  have hv : v = r.map (cv N0 b) := by injection hv
  subst hv
  rw [h0] at hz hk
  obtain ⟨t2, a1, b1⟩ := kk T'.heap (locs ++ L) (by rw [e1]; exact hp)
    ⟨Nat.le_trans hS.1 (by rw [e1]; exact hz), fun q h1 h2 => by rw [e1, hk q (Nat.lt_of_lt_of_le h1 hS.1) h2]; exact hS.2.1 q h1 h2, fun q hq => by
      rcases List.mem_append.mp hq with h | h
      · exact hS.2.2 q h
      · exact hL q h⟩ T' rfl X'
  exact ⟨t2, st t2 a1, b1⟩
theorem PG_blind {as : List Value} : FrameBlind (va_Pc as (PG X N0 b cA D h)) := by
  intro a U g mk hq
  obtain ⟨q0, q1, q2, q3, q4, q5, q6⟩ := hq
  exact ⟨q0, q1, q2, va_K.moved (u := U) (U := U.calling g mk a) (Vm.Alike.refl U.vm) q3, NW.same (u := U) rfl q4, va_X.moved (u := U) (U := U.calling g mk a) (Vm.Alike.refl U.vm) q5, q6⟩
theorem toL (r : Option Value) (rest : List Value) : (r.map (cv N0 b)).toList ++ rest.map (cv N0 b) = (r.toList ++ rest).map (cv N0 b) := by
  cases r <;> simp
set_option maxHeartbeats 4000000 in
theorem snd_c {kd N d : Nat} {as rest : List Value} {i : Instr} {r : Option Value} {mc1 ms1 : Nat} (C0 : CX X N0 b cA D p s m args meth c M) (hdg : decode (mb M) pc = .ok (i, 3)) (hi : (i = .invokestatic idx ∧ kd = 0) ∨ (i = .invokevirtual idx ∧ kd = 1) ∨ (i = .invokespecial idx ∧ kd = 2)) (hp : callK M idx kd st h = some (N, as, rest)) (hP : va_P D clsL (wl N0 b cA h) H) (hS : va_S (fun q => N0 ≤ q) s.heap H locs) (hls : lsC.size = mL M) (hR : d + 2 ≤ R.frames ∧ 40 * (d + 1) + 60 ≤ R.locals) (hsz : s.heap.size + cells = N0 + h.1.length)
    (hM : N < 219 → (lsl as).length ≤ mL N → Met l (mn N) (wsM N) (rmD d mc1 ms1) (va_Pc (as.map (cv N0 b)) (PG X N0 b cA D h)) (QG N0 b cA D r h') mc1 ms1 (fun q => N0 ≤ q)) (hc : cells + mc1 ≤ R.cells ∧ slots + ms1 ≤ R.slots)
    (kk : ∀ (H1 : Heap) (locs1 : List Loc), va_P D clsL (wl N0 b cA h') H1 → va_S (fun q => N0 ≤ q) s.heap H1 locs1 → W p l e R s m args below meth c H1 locs1 (cells + mc1) (slots + ms1) Q (F0 m (pc + 3) lsC ((r.toList ++ rest).map (cv N0 b)))) : W p l e R s m args below meth c H locs cells slots Q (F0 m pc lsC (st.map (cv N0 b))) := by
  obtain ⟨⟨hx, hb, hml, hr, hlk, hown, hin⟩, hts, hnw, hK, hX, hbN, hN⟩ := C0
  unfold callK at hp
  split at hp
  · rename_i t N' a2 a3 hrs
    split at hp
    · rename_i hcs
      obtain ⟨ht, hN2, hmk, hle, hsl, hcat, hc1, hc2, -⟩ := hcs
      simp only [Option.some.injEq, Prod.mk.injEq] at hp
      obtain ⟨rfl, rfl, rfl⟩ := hp
      have hM := hM hN2 hle
      obtain ⟨f1, f2, f3, f4, f5, f6, f7, f8, f9, f10⟩ := m_facts hN2
      refine W_size (fun hsz2 => ?_)
      have hz : H.size = N0 + h.1.length := by
        have := wl_size hP (Nat.le_trans hN hS.1)
        omega
      have hpre : ∀ U : State, U.heap = H → s.WarmedH U.vm → va_Pc ((st.take (nA kd N')).reverse.map (cv N0 b)) (PG X N0 b cA D h) ((st.take (nA kd N')).reverse.map (cv N0 b)).toArray U := by
        intro U hU hW
        refine ⟨rfl, by rw [hU]; exact hz, by rw [hU]; exact hP, va_K.moved hW.alike hK, NW.warm hW hnw, ?_, hbN⟩
        rw [hU]
        exact va_X.moved hW.alike (hX.kept (hS.2.1 b (Nat.lt_of_lt_of_le hbN hN) (by omega)))
      have hRR : (rmD d mc1 ms1).frames + 1 ≤ R.frames ∧ 8 + (mL N' + 11) + (rmD d mc1 ms1).locals ≤ R.locals := by
        constructor
        · show d + 1 + 1 ≤ _; omega
        · show 8 + (mL N' + 11) + (40 * d + 60) ≤ _; omega
      have hcats : 2 * (F0 m pc lsC (st.map (cv N0 b))).monitorRoom + (((st.drop (nA kd N')).map (cv N0 b)).map fun v => v.category).sum ≤ 8 := lv_room (by rw [cv_cats]; exact hcat)
      have fix : CallFix p m c (mb M) (mL M) s args gw (cn (mc M)) := ⟨hx, hb, hml, hown, hts⟩
      have hsplit : ∀ n, n ≤ st.length → st.map (cv N0 b) = ((st.take n).reverse.map (cv N0 b)).reverse ++ (st.drop n).map (cv N0 b) := by
        intro n _
        rw [← List.map_reverse, List.reverse_reverse, ← List.map_append, List.take_append_drop]
      have hlenA : ∀ n, n ≤ st.length → ((st.take n).reverse.map (cv N0 b)).length = n := by
        intro n hn
        simp [List.length_take]
        omega
      have kk2 : ∀ (H1 : Heap) (locs1 : List Loc), va_P D clsL (wl N0 b cA h') H1 → va_S (fun q => N0 ≤ q) s.heap H1 locs1 → W p l e R s m args below meth c H1 locs1 (cells + mc1) (slots + ms1) Q (F0 m (pc + 3) lsC ((r.map (cv N0 b)).toList ++ (st.drop (nA kd N')).map (cv N0 b))) := by
        intro H1 l1 h1 h2
        rw [toL]
        exact kk H1 l1 h1 h2
      rcases hi with ⟨rfl, rfl⟩ | ⟨rfl, rfl⟩ | ⟨rfl, rfl⟩
      · simp only [show nA 0 N' = ma N' from rfl] at hM hpre hcats hsl kk2 hcat
        rcases ht with rfl | rfl
        · exact callG (va_runS fix hM ⟨callB_of (ma N') hts (wsM_good hN2) rfl rfl rfl (hts _ f1) (hts _ (gw_of (rs_in hrs) rfl)) f6 hRR, hts _ (f2 hmk)⟩ ⟨PG_blind, hpre⟩ rfl (hlenA _ hsl) hls (hsplit _ hsl) hcats hdg hc) hS kk2
        · exact callG (va_runSN (host := "ClaySeals") fix hM ⟨va_cnB (ma N') hts (wsM_good hN2) rfl rfl rfl (hnw _ _ _ _ _ _ hrs (Or.inr rfl)) (hts _ f1) f6 hRR, hts _ (f2 hmk), trivial⟩ ⟨PG_blind, hpre⟩ rfl (hlenA _ hsl) hls (hsplit _ hsl) hcats hdg hc) hS kk2
      · simp only [show nA 1 N' = ma N' + 1 from rfl] at hM hpre hcats hsl kk2 hcat
        have hc1 := hc1 rfl
        have hlen2 := hlenA _ hsl
        have hspl := hsplit _ hsl
        generalize hA : (st.take (ma N' + 1)).reverse = A at hM hpre hc1 hlen2 hspl
        unfold hasC at hc1
        split at hc1
        · rename_i k tl
          have hc1 := of_decide_eq_true hc1
          have he : (wl N0 b cA h)[k]? = some (N0 + k, .inr (mc N', (List.range (cN (mc N'))).map (fun j => cv N0 b (fval h k (mc N') j)))) := by
            rw [wl_get (lt_of_get hc1.2)]
            simp only [ce, hc1.2]
          have hrec := va_recv (s := s) hK hP (clsL_get hc1.1) he
          have hspl2 : st.map (cv N0 b) = (tl.map (cv N0 b)).reverse ++ .ref (N0 + k) :: (st.drop (ma N' + 1)).map (cv N0 b) := by
            rw [hspl, List.map_cons, List.reverse_cons, List.append_assoc]
            rfl
          have hl3 : (tl.map (cv N0 b)).length = ma N' := by
            simp only [List.map_cons, List.length_cons] at hlen2
            omega
          have hrec2 : ∃ cell : Cell, H[N0 + k]? = some cell ∧ cell.vm.isStatics = false ∧ s.vm.findClass (mn N').cls = some cell.cls := by
            rw [f5]; exact hrec
          rcases ht with rfl | rfl
          · exact callG (va_runV (C := (mn N').cls) (b := N0 + k) (As := tl.map (cv N0 b)) fix hM ⟨callB_of (ma N') hts (wsM_good hN2) rfl rfl rfl (hts _ f1) (hts _ (gw_of (rs_in hrs) rfl)) f6 hRR, hts _ (f3 (by omega)), hts _ (f4 hmk)⟩ ⟨PG_blind, hrec2, hpre⟩ rfl hl3 hls hspl2 hcats hdg hc) hS kk2
          · exact callG (va_runVN (host := "ClaySeals") (C := (mn N').cls) (b := N0 + k) (As := tl.map (cv N0 b)) fix hM ⟨va_cnB (ma N') hts (wsM_good hN2) rfl rfl rfl (hnw _ _ _ _ _ _ hrs (Or.inr rfl)) (hts _ f1) f6 hRR, hts _ (f3 (by omega)), hts _ (f4 hmk)⟩ ⟨PG_blind, hrec2, hpre⟩ rfl hl3 hls hspl2 hcats hdg hc) hS kk2
        · cases hc1
      · simp only [show nA 2 N' = ma N' + 1 from rfl] at hM hpre hcats hsl kk2 hcat
        have hc2 := hc2 rfl
        have hlen2 := hlenA _ hsl
        have hspl := hsplit _ hsl
        have hret := f10 hmk
        unfold wsM at hM
        rw [hret] at hM
        have hG := wsM_good hN2
        unfold wsM at hG
        rw [hret] at hG
        generalize hA : (st.take (ma N' + 1)).reverse = A at hM hpre hc2 hlen2 hspl
        unfold isRf at hc2
        split at hc2
        · rename_i k tl
          have hspl2 : st.map (cv N0 b) = (tl.map (cv N0 b)).reverse ++ .ref (N0 + k) :: (st.drop (ma N' + 1)).map (cv N0 b) := by
            rw [hspl, List.map_cons, List.reverse_cons, List.append_assoc]
            rfl
          have hl3 : (tl.map (cv N0 b)).length = ma N' := by
            simp only [List.map_cons, List.length_cons] at hlen2
            omega
          rcases ht with rfl | rfl
          · exact callG (va_runI (b := N0 + k) (As := tl.map (cv N0 b)) fix hM ⟨callB_of (ma N') hts hG rfl rfl rfl (hts _ f1) (hts _ (gw_of (rs_in hrs) rfl)) f6 hRR, f9.mp hmk, hts _ (f3 (by omega))⟩ ⟨PG_blind, hpre⟩ rfl hl3 hls hspl2 hcats hdg hc) hS kk2
          · exact callG (va_runIN (host := "ClaySeals") (b := N0 + k) (As := tl.map (cv N0 b)) fix hM ⟨va_cnB (ma N') hts hG rfl rfl rfl (hnw _ _ _ _ _ _ hrs (Or.inr rfl)) (hts _ f1) f6 hRR, f9.mp hmk, hts _ (f3 (by omega))⟩ ⟨PG_blind, hpre⟩ rfl hl3 hls hspl2 hcats hdg hc) hS kk2
        · cases hc2
    · cases hp
  · cases hp
end SND
