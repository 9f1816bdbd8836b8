section SNDH2
variable {p : Program} {l : Launch} {e : Env} {R : Room} {s : State} {m : MethodId} {args : Array Value} {below : List Frame} {meth : Method} {c : Code} {H : Heap} {locs : List Loc} {cells slots : Nat} {Q : State → Prop}
variable {X : AX} {N0 b M pc idx : Nat} {cA : Nat → ClassId} {D : va_G} {lsC : Array Slot} {st st' : List Value} {h h' : AH}
theorem wl_0 {k n : Nat} (hkd : h.1[k]? = some (0, n)) : (wl N0 b cA h)[k]? = some (N0 + k, .inl (cA 0, n, .inl (h.2.1 k))) := by
  rw [wl_get (lt_of_get hkd)]
  simp only [ce, hkd]
theorem wl_1 {k n : Nat} (hkd : h.1[k]? = some (1, n)) : (wl N0 b cA h)[k]? = some (N0 + k, .inl (cA 1, n, .inr (.inl (h.2.2.1 k)))) := by
  rw [wl_get (lt_of_get hkd)]
  simp only [ce, hkd]
theorem wl_2 {k n : Nat} (hkd : h.1[k]? = some (2, n)) : (wl N0 b cA h)[k]? = some (N0 + k, .inl (cA 2, n, .inl (h.2.1 k))) := by
  rw [wl_get (lt_of_get hkd)]
  simp only [ce, hkd]
theorem up2_row {α : Type} (f : Nat → Nat → α) (k j : Nat) (v : α) : up2 f k j v k = fun b => if b = j then v else f k b := by
  simp only [up2, if_true]
/-- a new cell, where the heap ends -/
theorem wl_new {t n : Nat} {H' : Heap} (hP : va_P D clsL (wl N0 b cA h) H) (hS : va_S (fun q => N0 ≤ q) s.heap H locs) (hz : H.size = N0 + h.1.length) (hold : ∀ q, q < H.size → H'[q]? = H[q]?) (hz' : H'.size = H.size + 1) (hat : va_at D clsL (N0 + h.1.length, ce N0 b cA (addC h t n) h.1.length) H') :
    va_P D clsL (wl N0 b cA (addC h t n)) H' ∧ va_S (fun q => N0 ≤ q) s.heap H' locs := by
  constructor
  · rw [wl_add]
    refine (hP.kept (fun k x hx => hold x.1 (hP k x hx).lt)).app (fun k x hx => ?_)
    have hk : k < 1 := (List.getElem?_eq_some_iff.mp hx).1
    rw [show k = 0 by omega] at hx
    cases hx
    exact hat
  · exact ⟨Nat.le_trans hS.1 (by omega), fun x h1 h2 => (hold x (Nat.lt_of_lt_of_le h1 hS.1)).trans (hS.2.1 x h1 h2), hS.2.2⟩
theorem slC_add {t n : Nat} : slC (addC h t n) = slC h + n := by simp [slC, addC]
theorem add_len {t n : Nat} : (addC h t n).1.length = h.1.length + 1 := by simp [addC]
theorem add_at {t n : Nat} : (addC h t n).1[h.1.length]? = some (t, n) := by simp [addC]
theorem snd_newa {at_ : ArrayType} {g : Nat} {n : Int32} {r : List Value} (C0 : CX X N0 b cA D p s m args meth c M) (hdg : decode (mb M) pc = .ok (.newarray at_, 2)) (hat : arrT at_ = some g) (hn : ¬ n < 0) (hn2 : n.toNatClampNeg ≤ 10000) (hP : va_P D clsL (wl N0 b cA h) H) (hS : va_S (fun q => N0 ≤ q) s.heap H locs) (hsz : s.heap.size + cells = N0 + h.1.length) (hc1 : cells + 1 ≤ R.cells) (hc2 : slots + n.toNatClampNeg ≤ R.slots)
    (kk : ∀ H1 : Heap, va_P D clsL (wl N0 b cA (addC h g n.toNatClampNeg)) H1 → va_S (fun q => N0 ≤ q) s.heap H1 locs → W p l e R s m args below meth c H1 locs (cells + 1) (slots + n.toNatClampNeg) Q (F0 m (pc + 2) lsC (.ref (N0 + h.1.length) :: r))) : W p l e R s m args below meth c H locs cells slots Q (F0 m pc lsC (.int n :: r)) := by
  obtain ⟨⟨hx, hb, hml, hr, hlk, hown, hin⟩, hts, hnw, hK, hX, hbN, hN⟩ := C0
  refine W_size (fun hle => ?_)
  have hz : H.size = N0 + h.1.length := by
    have := wl_size hP (Nat.le_trans hN hS.1)
    omega
  have k0 : s.vm.findClass ("[" ++ FieldType.int.toString) = some (cA 0) := (hK.2 0 (cA 0, .int) rfl).2
  have k1 : s.vm.findClass ("[" ++ FieldType.long.toString) = some (cA 1) := (hK.2 1 (cA 1, .long) rfl).2
  have k2 : s.vm.findClass ("[" ++ FieldType.boolean.toString) = some (cA 2) := (hK.2 2 (cA 2, .boolean) rfl).2
  cases at_ <;> simp only [arrT, reduceCtorEq, Option.some.injEq] at hat <;> subst hat
  case int =>
    refine va_newaK (atype := .int) (N := n.toNatClampNeg) hx hb (hts _ (gw_of arr_ok.1 rfl)) (g := F0 m pc lsC (.int n :: r)) rfl hdg rfl hn rfl (by show n.toNatClampNeg * 4 ≤ _; omega) hc1 hc2 hz (fun H1 cc e1 z1 o1 _ hNm => ?_)
    have ec : cc = cA 0 := Option.some.inj (hNm.symm.trans k0)
    subst ec
    obtain ⟨q1, q2⟩ := wl_new (t := 0) (n := n.toNatClampNeg) hP hS hz (fun q hq => o1 q (by omega)) (by omega) (by
      simp only [ce, add_at]
      show H1[N0 + h.1.length]? = some _
      rw [e1]
      simp [addC, upr, vp_cell, newarray.typeOf, defaultValue])
    exact kk H1 q1 q2
  case long =>
    refine va_newaK (atype := .long) (N := n.toNatClampNeg) hx hb (hts _ (gw_of arr_ok.2.1 rfl)) (g := F0 m pc lsC (.int n :: r)) rfl hdg rfl hn rfl (by show n.toNatClampNeg * 8 ≤ _; omega) hc1 hc2 hz (fun H1 cc e1 z1 o1 _ hNm => ?_)
    have ec : cc = cA 1 := Option.some.inj (hNm.symm.trans k1)
    subst ec
    obtain ⟨q1, q2⟩ := wl_new (t := 1) (n := n.toNatClampNeg) hP hS hz (fun q hq => o1 q (by omega)) (by omega) (by
      simp only [ce, add_at]
      show H1[N0 + h.1.length]? = some _
      rw [e1]
      simp [addC, upr, vp_cell, newarray.typeOf, defaultValue])
    exact kk H1 q1 q2
  case boolean =>
    refine va_newaK (atype := .boolean) (N := n.toNatClampNeg) hx hb (hts _ (gw_of arr_ok.2.2 rfl)) (g := F0 m pc lsC (.int n :: r)) rfl hdg rfl hn rfl (by show n.toNatClampNeg * 1 ≤ _; omega) hc1 hc2 hz (fun H1 cc e1 z1 o1 _ hNm => ?_)
    have ec : cc = cA 2 := Option.some.inj (hNm.symm.trans k2)
    subst ec
    obtain ⟨q1, q2⟩ := wl_new (t := 2) (n := n.toNatClampNeg) hP hS hz (fun q hq => o1 q (by omega)) (by omega) (by
      simp only [ce, add_at]
      show H1[N0 + h.1.length]? = some _
      rw [e1]
      simp [addC, upr, vp_cell, newarray.typeOf, defaultValue])
    exact kk H1 q1 q2
theorem snd_new {ci j pp : Nat} {r : List Value} (C0 : CX X N0 b cA D p s m args meth c M) (hdg : decode (mb M) pc = .ok (.new idx, 3)) (hrs : rs (mc M) idx = some (4, ci, j, pp)) (hci : ci < 12) (hP : va_P D clsL (wl N0 b cA h) H) (hS : va_S (fun q => N0 ≤ q) s.heap H locs) (hsz : s.heap.size + cells = N0 + h.1.length) (hc1 : cells + 1 ≤ R.cells) (hc2 : slots + cN ci ≤ R.slots)
    (kk : ∀ H1 : Heap, va_P D clsL (wl N0 b cA (addC h (ci + 3) (cN ci))) H1 → va_S (fun q => N0 ≤ q) s.heap H1 locs → W p l e R s m args below meth c H1 locs (cells + 1) (slots + cN ci) Q (F0 m (pc + 3) lsC (.ref (N0 + h.1.length) :: r))) : W p l e R s m args below meth c H locs cells slots Q (F0 m pc lsC r) := by
  obtain ⟨⟨hx, hb, hml, hr, hlk, hown, hin⟩, hts, hnw, hK, hX, hbN, hN⟩ := C0
  refine W_size (fun hle => ?_)
  have hz : H.size = N0 + h.1.length := by
    have := wl_size hP (Nat.le_trans hN hS.1)
    omega
  have hKn := hK.1 ci _ (clsL_get hci)
  refine W.newcK hx hb hown (hts _ (gw_of (rs_in hrs) rfl)) (hts _ (gw_of (cls_inst hci) rfl)) (hts _ (cls_ini (by omega))) (g := F0 m pc lsC r) rfl hdg hc1 hc2 hKn.2.1 hz (fun H1 kC hkC e1 z1 o1 => ?_)
  obtain ⟨q1, q2⟩ := wl_new (t := ci + 3) (n := cN ci) hP hS hz (fun q hq => o1 q (by omega)) (by omega) (by
    simp only [ce, add_at]
    refine ⟨_, clsL_get hci, (u_born (cty ci) hts (cls_ws hci) hKn hkC e1 (fun k hk => (cls_fld hci hk).2)).to (fun k hk => ?_)⟩
    have : vp_V ((List.range (cN ci)).map (fun j => cv N0 b (fval (addC h (ci + 3) (cN ci)) h.1.length ci j))) k = cv N0 b (fval (addC h (ci + 3) (cN ci)) h.1.length ci k) := by
      simp [vp_V, List.getD, hk]
    show defaultValue (cty ci k) = _
    rw [this]
    rcases tg_fact hci hk with ⟨e1, e⟩ | ⟨e1, e⟩ | ⟨e1, e⟩
    · simp [fval, addC, upr, e1, e, cv, defaultValue]
    · simp [fval, addC, upr, e1, e, cv, defaultValue]
    · simp only [fval, addC, upr, e1, if_true, cv]
      generalize cty ci k = ty at e
      cases ty <;> simp_all [refK, defaultValue])
  exact kk H1 q1 q2
end SNDH2
