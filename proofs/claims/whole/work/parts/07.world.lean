/-! the plain machine's cells as a world of the kit's -/
def gw : List Cond := lw_tbl.filter goodWord
theorem gw_of {w : Cond} {i : Nat} (h : lw_tbl[i]? = some w) (hg : goodWord w = true) : w ∈ gw := List.mem_filter.mpr ⟨List.mem_of_getElem? h, hg⟩
theorem gw_good : GoodIn gw gw := fun w h => ⟨h, good_of_word (List.mem_filter.mp h).2⟩
theorem lookup_in {α : Type} : ∀ (l : List (Nat × α)) (i : Nat) (v : α), l.lookup i = some v → (i, v) ∈ l
  | [], _, _, h => by cases h
  | (a, w) :: l, i, v, h => by
    rw [List.lookup_cons] at h
    by_cases e : i == a
    · rw [e] at h
      have e : i = a := by simpa using e
      have h : w = v := by simpa using h
      subst e; subst h
      exact List.mem_cons_self
    · have e : (i == a) = false := by simpa using e
      rw [e] at h
      exact List.mem_cons_of_mem _ (lookup_in l i v h)
theorem rsv_all (c : Nat) : (rsv.getD c []).all (fun r => decide (lw_tbl[rsP r]? = some (rsW c r))) = true := match c with
  | 0 => rsv_ok_0
  | 1 => rsv_ok_1
  | 2 => rsv_ok_2
  | 3 => rsv_ok_3
  | 4 => rsv_ok_4
  | 5 => rsv_ok_5
  | 6 => rsv_ok_6
  | 7 => rsv_ok_7
  | 8 => rsv_ok_8
  | 9 => rsv_ok_9
  | 10 => rsv_ok_10
  | 11 => rsv_ok_11
  | 12 => rsv_ok_12
  | 13 => rsv_ok_13
  | 14 => rsv_ok_14
  | _ + 15 => rfl
theorem rs_in {c i t a k p : Nat} (h : rs c i = some (t, a, k, p)) : lw_tbl[p]? = some (rsW c (i, t, a, k, p)) := by
  have h1 := List.all_eq_true.mp (rsv_all c) _ (lookup_in _ _ _ h)
  exact of_decide_eq_true h1
theorem clsL_get {c : Nat} (hc : c < 12) : clsL[c]? = some (cn c, cT c, cN c) := by simp [clsL, hc]
theorem cls_inst {c : Nat} (hc : c < 12) : lw_tbl[cinst.getD c 0]? = some (.instantiable (cn c) (cN c)) := by
  have h := List.all_eq_true.mp cls_ok c (List.mem_range.mpr hc)
  simp only [Bool.and_eq_true, decide_eq_true_eq] at h
  exact h.1.1.1
theorem cls_fld {c k : Nat} (hc : c < 12) (hk : k < cN c) : lw_tbl[(cfp.getD c []).getD k 0]? = some (u_lay (cn c) (cT c) k) ∧ parseFieldDescriptor ((cT c) k).2.2.1 = some (cty c k) := by
  have h := List.all_eq_true.mp cls_ok c (List.mem_range.mpr hc)
  simp only [Bool.and_eq_true, decide_eq_true_eq] at h
  have h2 := List.all_eq_true.mp h.2 k (List.mem_range.mpr hk)
  simpa using h2
theorem cls_nm {c : Nat} (hc : c < 12) : ∀ a, a < cN c → ∀ b, b < cN c → a ≠ b → ((cT c) a).2.1 ≠ ((cT c) b).2.1 := by
  intro a ha b hb hab
  have h := List.all_eq_true.mp (List.all_eq_true.mp (List.all_eq_true.mp nm_ok c (List.mem_range.mpr hc)) a (List.mem_range.mpr ha)) b (List.mem_range.mpr hb)
  simp only [Bool.or_eq_true, decide_eq_true_eq] at h
  exact h.resolve_left hab
theorem cls_ws {c : Nat} (hc : c < 12) : ∀ w ∈ u_ws (cn c) (cT c) (cN c), w ∈ gw := by
  intro w hw
  unfold u_ws at hw
  obtain ⟨k, hk, rfl⟩ := List.mem_map.mp hw
  refine gw_of (cls_fld hc (List.mem_range.mp hk)).1 ?_
  unfold u_lay
  split <;> rfl
theorem cls_ini {c : Nat} (hc : c < 15) : .initialized (cn c) ∈ gw := by
  have h := List.all_eq_true.mp ini_ok c (List.mem_range.mpr hc)
  exact gw_of (of_decide_eq_true h) rfl
def refK (t : FieldType) : Bool := match t with
  | .object _ => true
  | .array _ => true
  | _ => false
theorem tg_ok : (List.range 12).all (fun c => (List.range (cN c)).all (fun k => decide (ctg c k = 0 ∧ cty c k = .int) || (decide (ctg c k = 1 ∧ cty c k = .boolean) || (decide (ctg c k = 2) && refK (cty c k))))) = true := by decide +kernel
theorem tg_fact {c k : Nat} (hc : c < 12) (hk : k < cN c) : (ctg c k = 0 ∧ cty c k = .int) ∨ (ctg c k = 1 ∧ cty c k = .boolean) ∨ (ctg c k = 2 ∧ refK (cty c k) = true) := by
  have h := List.all_eq_true.mp (List.all_eq_true.mp tg_ok c (List.mem_range.mpr hc)) k (List.mem_range.mpr hk)
  simpa using h
def tysL (cA : Nat → ClassId) : List (ClassId × FieldType) := [(cA 0, .int), (cA 1, .long), (cA 2, .boolean)]
def ce (N0 b : Nat) (cA : Nat → ClassId) (h : AH) (k : Nat) : va_E := match h.1[k]? with
  | some (0, n) => .inl (cA 0, n, .inl (h.2.1 k))
  | some (1, n) => .inl (cA 1, n, .inr (.inl (h.2.2.1 k)))
  | some (2, n) => .inl (cA 2, n, .inl (h.2.1 k))
  | some (c + 3, n) => .inr (c, (List.range n).map (fun j => cv N0 b (fval h k c j)))
  | none => .inr (0, [])
def wl (N0 b : Nat) (cA : Nat → ClassId) (h : AH) : va_W := (List.range h.1.length).map (fun k => (N0 + k, ce N0 b cA h k))
theorem wl_get {N0 b k : Nat} {cA : Nat → ClassId} {h : AH} (hk : k < h.1.length) : (wl N0 b cA h)[k]? = some (N0 + k, ce N0 b cA h k) := by simp [wl, hk]
theorem wl_inv {N0 b k : Nat} {cA : Nat → ClassId} {h : AH} {q : Nat × va_E} (hq : (wl N0 b cA h)[k]? = some q) : k < h.1.length ∧ q = (N0 + k, ce N0 b cA h k) := by
  have hk : k < h.1.length := by
    have := (List.getElem?_eq_some_iff.mp hq).1
    simpa [wl] using this
  rw [wl_get hk] at hq
  exact ⟨hk, (Option.some.inj hq).symm⟩
theorem wl_D {N0 b : Nat} {cA : Nat → ClassId} {h : AH} : va_D (fun q => N0 ≤ q) (wl N0 b cA h) := by
  refine ⟨fun i j p q hi hj e => ?_, fun k q hk => ?_⟩
  · obtain ⟨-, rfl⟩ := wl_inv hi
    obtain ⟨-, rfl⟩ := wl_inv hj
    simp only at e
    omega
  · obtain ⟨-, rfl⟩ := wl_inv hk
    exact Nat.le_add_right _ _
theorem wl_upd {N0 b k : Nat} {cA : Nat → ClassId} {h h' : AH} (h1 : h'.1 = h.1) (ho : ∀ a, a ≠ k → ce N0 b cA h' a = ce N0 b cA h a) {x : va_E} (hx : x = ce N0 b cA h' k) : (wl N0 b cA h).set k (N0 + k, x) = wl N0 b cA h' := by
  subst hx
  apply List.ext_getElem?
  intro a
  by_cases ha : a < h.1.length
  · by_cases e : a = k
    · subst e
      rw [List.getElem?_set_self (by simpa [wl] using ha), wl_get (by rw [h1]; exact ha)]
    · rw [List.getElem?_set_ne (Ne.symm e), wl_get ha, wl_get (by rw [h1]; exact ha), ho a e]
  · rw [List.getElem?_eq_none (by simpa [wl] using ha), List.getElem?_eq_none (by simpa [wl, h1] using ha)]
theorem wl_add {N0 b t n : Nat} {cA : Nat → ClassId} {h : AH} : wl N0 b cA (addC h t n) = wl N0 b cA h ++ [(N0 + h.1.length, ce N0 b cA (addC h t n) h.1.length)] := by
  have e : (addC h t n).1.length = h.1.length + 1 := by simp [addC]
  unfold wl
  rw [e, List.range_succ, List.map_append]
  congr 1
  refine List.map_congr_left (fun k hk => ?_)
  have hk := List.mem_range.mp hk
  have hne : k ≠ h.1.length := by omega
  simp only [ce, addC, fval, upr, if_neg hne]
  rw [List.getElem?_append_left hk]
theorem wl_size {N0 b : Nat} {cA : Nat → ClassId} {h : AH} {D : va_G} {H : Heap} (hP : va_P D clsL (wl N0 b cA h) H) (h0 : N0 ≤ H.size) : N0 + h.1.length ≤ H.size := by
  rcases Nat.eq_zero_or_pos h.1.length with e | e
  · omega
  · have := (hP (h.1.length - 1) _ (wl_get (by omega))).lt
    simp only at this
    omega
def NW (U : State) : Prop := ∀ c i t a k p : Nat, rs c i = some (t, a, k, p) → t = 1 ∨ t = 3 → va_Nw (rsW c (i, t, a, k, p)) U
theorem NW.warm {s U : State} (hW : s.WarmedH U.vm) (h : NW s) : NW U := by
  intro c i t a k p hr ht
  have h1 := h c i t a k p hr ht
  rcases ht with rfl | rfl
  · exact va_Nw.warmF hW h1
  · exact va_Nw.warmM hW h1
theorem NW.same {u U : State} (e : u.vm = U.vm) (h : NW u) : NW U := by
  intro c i t a k p hr ht
  have h1 := h c i t a k p hr ht
  rcases ht with rfl | rfl
  · exact va_Nw.same rfl e h1
  · exact va_Nw.same rfl e h1
/-- what holds of a method's activation -/
def CX (X : AX) (N0 b : Nat) (cA : Nat → ClassId) (D : va_G) (p : Program) (s : State) (m : MethodId) (args : Array Value) (meth : Method) (c : Code) (M : Nat) : Prop :=
  (p.tables.exec = Jvm.exec ∧ c.code = mb M ∧ c.maxLocals = mL M ∧ meth.sig.returnType = mr M ∧ meth.locks = false ∧ s.vm.findClass (cn (mc M)) = some m.cls ∧ (mk M = 2 → meth.name = "<init>")) ∧ (∀ w ∈ gw, w.before args s = true) ∧ NW s ∧ va_K D clsL (tysL cA) s ∧ va_X b X.1 X.2 s s.heap ∧ b < N0 ∧ N0 ≤ s.heap.size
def slC (h : AH) : Nat := (h.1.map fun q => q.2).sum
theorem W_size {p : Program} {l : Launch} {e : Env} {R : Room} {s : State} {m : MethodId} {args : Array Value} {below : List Frame} {meth : Method} {c : Code} {H : Heap} {locs : List Loc} {cells slots : Nat} {Q : State → Prop} {g : JFrame} (k : H.size ≤ s.heap.size + cells → W p l e R s m args below meth c H locs cells slots Q g) : W p l e R s m args below meth c H locs cells slots Q g := by
  intro T hT X
  have h1 : T.heap.size ≤ s.heap.size + cells := X.same.2.2.1
  rw [hT] at h1
  exact k h1 T hT X
