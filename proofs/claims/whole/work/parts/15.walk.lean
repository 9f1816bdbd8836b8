def R_law : String := "ClaySealsLaw"
def lw_Q (_ : Array Value) (s : State) (o : Outcome) (t : State) : Prop := o = .returned (some (.int 1)) ∧ Framed s o t [] 600000 7302250
def lw_Z (below : List Frame) (a : Array Value) (s : State) : State → Prop := fun t => ∃ o, t.status = .running ∧ Ended t below o ∧ lw_Q a s o t
def lw_At (p : Program) (s : State) (m : MethodId) (meth : Method) (c : Code) (b L : Nat) (xs : Nat → Int32) : Prop :=
  p.tables.exec = Jvm.exec ∧ c.code = code ∧ meth.sig.returnType = ret ∧ c.maxLocals = 4 ∧ s.vm.findClass R_law = some m.cls ∧ (∀ w ∈ lw_tbl, w.before #[Value.ref b] s = true) ∧ va_X b L xs s s.heap ∧ b < s.heap.size ∧ meth.locks = false ∧ (Jvm.Cond.and given_1 narrow_1).before #[Value.ref b] s = true
def hZ : AH := ([], fun _ _ => 0, fun _ _ => 0, fun _ _ => .null)
theorem arr_known {s : State} {args : Array Value} {ty : FieldType} (h : (Cond.arrayClass ty).before args s = true) (hty : refK ty = false) : ∃ cA : ClassId, ArrOfT s cA ty ∧ va_RA s cA ty := by
  obtain ⟨cB, kB, comp, hcB, hkB, hkind⟩ := Cond.arrayClass_spec h
  refine ⟨cB, fun n z => ⟨fun k h => (by cases h), kB, hkB, comp, hkind⟩, ?_⟩
  cases ty <;> first | exact hcB | (simp [refK] at hty)
/-- the law's end, out of the plain machine's -/
theorem walk_of {p : Program} {e : Env} {s : State} {m : MethodId} {below : List Frame} {meth : Method} {c : Code} (l : Launch) {b L d : Nat} {xs : Nat → Int32} (hd : d ≤ 1000) (C0 : lw_At p s m meth c b L xs)
    (hw : wp (L, xs) d m_L_law 0 (ent [.float 0] 4) [] hZ (fun r h' => r = some (.int 1) ∧ h'.1.length ≤ 600000 ∧ slC h' ≤ 7302250)) : W p l e room_1 s m #[Value.ref b] below meth c s.heap [] 0 0 (lw_Z below #[Value.ref b] s) (entryFrame m ([Value.ref b] : List Value).toArray 4) := by
  obtain ⟨hx, hb, hr, hml, hown, hts, hX, hbl, hlocks, hgv⟩ := C0
  have htg : ∀ w ∈ gw, w.before #[Value.ref b] s = true := fun w h => hts w (List.mem_filter.mp h).1
  have hk : ∀ cl : Nat, ∃ q : ClassId × (Nat → Nat), cl < 12 → u_Kn s (cn cl) (cT cl) (cN cl) q.1 q.2 := by
    intro cl
    by_cases hc : cl < 12
    · obtain ⟨c0, i0, h0⟩ := u_known (C := cn cl) (T := cT cl) (N := cN cl) (n := cN cl) htg (cls_ws hc) (htg _ (gw_of (cls_inst hc) rfl))
      exact ⟨(c0, i0), fun _ => h0⟩
    · exact ⟨(0, fun _ => 0), fun h => absurd h hc⟩
  obtain ⟨D, hD⟩ : ∃ D : va_G, ∀ cl, cl < 12 → u_Kn s (cn cl) (cT cl) (cN cl) (D.1 cl) (D.2 cl) :=
    ⟨(fun cl => (Classical.choose (hk cl)).1, fun cl => (Classical.choose (hk cl)).2), fun cl h => Classical.choose_spec (hk cl) h⟩
  obtain ⟨a0, p0, q0⟩ := arr_known (htg _ (gw_of arr_ok.1 rfl)) rfl
  obtain ⟨a1, p1, q1⟩ := arr_known (htg _ (gw_of arr_ok.2.1 rfl)) rfl
  obtain ⟨a2, p2, q2⟩ := arr_known (htg _ (gw_of arr_ok.2.2 rfl)) rfl
  have hK : va_K D clsL (tysL (fun k => if k = 0 then a0 else if k = 1 then a1 else a2)) s := by
    refine ⟨fun cl q hq => ?_, fun k q hq => ?_⟩
    · have hc : cl < 12 := by
        have := lt_of_get hq
        simpa [clsL] using this
      rw [clsL_get hc] at hq
      cases hq
      exact hD cl hc
    · match k, hq with
      | 0, hq => cases hq; exact ⟨p0, q0⟩
      | 1, hq => cases hq; exact ⟨p1, q1⟩
      | 2, hq => cases hq; exact ⟨p2, q2⟩
      | k + 3, hq => simp [tysL] at hq
  have hNW : NW s := by
    intro cl i t a k q hrs ht
    have h1 := hts _ (List.mem_of_getElem? (rs_in hrs))
    rcases ht with rfl | rfl
    · exact va_Nw.of rfl h1
    · exact va_Nw.of rfl h1
  obtain ⟨n, r, h', hrun, hr1, hle1, hle2⟩ := hw
  have hl := lv_entry ([Value.ref b]) (n := 4) (Nat.le_of_ble_eq_true rfl)
  rw [lg_entry_eq]
  have hS := sound (l := l) (X := (L, xs)) (N0 := s.heap.size) (b := b) (cA := fun k => if k = 0 then a0 else if k = 1 then a1 else a2) (D := D) n d m_L_law 0 (ent [.float 0] 4) [] hZ r h' hrun (p := p) (e := e) (R := room_1) (s := s) (m := m) (args := #[Value.ref b]) (below := below) (meth := meth) (c := c) (H := s.heap) (locs := []) (cells := 0) (slots := 0) (mc1 := h'.1.length) (ms1 := slC h')
    ⟨⟨hx, hb, hml, hr, hlocks, hown, fun e => by cases e⟩, htg, hNW, hK, hX, hbl, Nat.le_refl _⟩ ⟨by show d + 1 ≤ 2048; omega, by show 40 * d + 60 ≤ 84000; omega⟩ rfl
    (lv_mono hl (lvl_ent (N0 := s.heap.size) (b := b) (n := 4) (vs := [.float 0]))) (fun k q hq => by have := lt_of_get hq; simp [wl, hZ] at this) va_S.rf rfl (by simp [hZ]) (by simp [hZ, slC]) hle1 hle2
  intro T hT Y
  obtain ⟨t, st, o, o1, o2, ⟨o3, o4, o5⟩, L2, ⟨⟨v, hv⟩, f2, f3⟩, f4⟩ := hS T hT Y
  refine ⟨t, st, o, o1, o2, ?_, ⟨v, hv⟩, f2, f3.weaken (fun y hy hlt => absurd hlt (Nat.not_lt.mpr (f4 y hy))) hle1 hle2⟩
  rw [o3, hr1]
  rfl
