theorem map_set {α : Type} (f : Nat → α) (n j : Nat) (v : α) : ((List.range n).map f).set j v = (List.range n).map (fun i => if i = j then v else f i) := by
  apply List.ext_getElem?
  intro i
  by_cases hi : i < n
  · by_cases e : i = j
    · subst e
      rw [List.getElem?_set_self (by simpa using hi)]
      simp [hi]
    · rw [List.getElem?_set_ne (Ne.symm e)]
      simp [hi, e]
  · rw [List.getElem?_eq_none (by simpa using hi), List.getElem?_eq_none (by simpa using hi)]
theorem inb_in {i : Int32} {n : Nat} (h : inb i n = true) : vp_in i n := by
  unfold inb at h
  have h2 := of_decide_eq_true h
  exact h2
theorem lt_of_get {α : Type} {l : List α} {k : Nat} {v : α} (h : l[k]? = some v) : k < l.length := (List.getElem?_eq_some_iff.mp h).1
section SNDH
variable {p : Program} {l : Launch} {e : Env} {R : Room} {s : State} {m : MethodId} {args : Array Value} {below : List Frame} {meth : Method} {c : Code} {H : Heap} {locs : List Loc} {cells slots : Nat} {Q : State → Prop}
variable {X : AX} {N0 b M pc idx : Nat} {cA : Nat → ClassId} {D : va_G} {lsC : Array Slot} {st st' : List Value} {h h' : AH}
theorem snd_get (C0 : CX X N0 b cA D p s m args meth c M) (hdg : decode (mb M) pc = .ok (.getfield idx, 3)) (hp : getS M idx st h = some (st', h')) (hP : va_P D clsL (wl N0 b cA h) H)
    (kk : h' = h → W p l e R s m args below meth c H locs cells slots Q (F0 m (pc + 3) lsC (st'.map (cv N0 b)))) : W p l e R s m args below meth c H locs cells slots Q (F0 m pc lsC (st.map (cv N0 b))) := by
  obtain ⟨⟨hx, hb, hml, hr, hlk, hown, hin⟩, hts, hnw, hK, hX, hbN, hN⟩ := C0
  unfold getS at hp
  split at hp
  · rename_i k r
    split at hp
    · rename_i t ci j pp hrs
      split at hp
      · rename_i hc
        obtain ⟨ht, hci, hj, hkd⟩ := hc
        cases hp
        have he : (wl N0 b cA h)[k]? = some (N0 + k, .inr (ci, (List.range (cN ci)).map (fun j => cv N0 b (fval h k ci j)))) := by
          rw [wl_get (lt_of_get hkd)]
          simp only [ce, hkd]
        have hv : ((List.range (cN ci)).map (fun j => cv N0 b (fval h k ci j)))[j]? = some (cv N0 b (fval h k ci j)) := by simp [hj]
        rcases (show t = 0 ∨ t = 1 by omega) with rfl | rfl
        · exact va_get (own := cn (mc M)) (ref := cn ci) hx hb hts (cls_ws hci) hown hK hP k he (clsL_get hci) j hj (hts _ (gw_of (rs_in hrs) rfl)) (fun _ h => h) hv hdg (kk rfl)
        · exact va_getN (own := cn (mc M)) (ref := cn ci) (host := "ClaySeals") hx hb hts (cls_ws hci) hown hK hP k he (clsL_get hci) j hj (va_Nw.use rfl (hnw _ _ _ _ _ _ hrs (Or.inl rfl))) (fun _ h => h) hv hdg (kk rfl)
      · cases hp
    · cases hp
  · cases hp
theorem ce_setI {k a j : Nat} {x : Int32} (ha : a ≠ k) : ce N0 b cA (setI h k j x) a = ce N0 b cA h a := by
  simp only [ce, setI, fval, up2, if_neg ha]
theorem ce_setJ {k a j : Nat} {x : Int64} (ha : a ≠ k) : ce N0 b cA (setJ h k j x) a = ce N0 b cA h a := by
  simp only [ce, setJ, fval, up2, if_neg ha]
theorem ce_setR {k a j : Nat} {x : Value} (ha : a ≠ k) : ce N0 b cA (setR h k j x) a = ce N0 b cA h a := by
  simp only [ce, setR, fval, up2, if_neg ha]
theorem snd_putc {k ci j t pp : Nat} {v : Value} {r : List Value} (C0 : CX X N0 b cA D p s m args meth c M) (hdg : decode (mb M) pc = .ok (.putfield idx, 3)) (hrs : rs (mc M) idx = some (t, ci, j, pp)) (ht : t ≤ 1) (hci : ci < 12) (hj : j < cN ci) (hkd : h.1[k]? = some (ci + 3, cN ci))
    (hfin : ((cT ci) j).2.2.2 = false ∨ (t = 0 ∧ mk M = 2 ∧ ci = mc M)) (hn : narrow (cty ci j) (cv N0 b v) = cv N0 b v) (hfit : fits (cty ci j) (cv N0 b v) = true)
    (hw : (wl N0 b cA h).set k (N0 + k, .inr (ci, ((List.range (cN ci)).map (fun j => cv N0 b (fval h k ci j))).set j (cv N0 b v))) = wl N0 b cA h') (hP : va_P D clsL (wl N0 b cA h) H) (hS : va_S (fun q => N0 ≤ q) s.heap H locs)
    (kk : ∀ (H1 : Heap) (locs1 : List Loc), va_P D clsL (wl N0 b cA h') H1 → va_S (fun q => N0 ≤ q) s.heap H1 locs1 → W p l e R s m args below meth c H1 locs1 cells slots Q (F0 m (pc + 3) lsC (r.map (cv N0 b)))) : W p l e R s m args below meth c H locs cells slots Q (F0 m pc lsC ((v :: .ref k :: r).map (cv N0 b))) := by
  obtain ⟨⟨hx, hb, hml, hr, hlk, hown, hin⟩, hts, hnw, hK, hX, hbN, hN⟩ := C0
  have he : (wl N0 b cA h)[k]? = some (N0 + k, .inr (ci, (List.range (cN ci)).map (fun j => cv N0 b (fval h k ci j)))) := by
    rw [wl_get (lt_of_get hkd)]
    simp only [ce, hkd]
  have hl2 : j < ((List.range (cN ci)).map (fun j => cv N0 b (fval h k ci j))).length := by simpa using hj
  cases hf : ((cT ci) j).2.2.2 with
  | false =>
    rcases (show t = 0 ∨ t = 1 by omega) with rfl | rfl
    · exact va_put (own := cn (mc M)) (ref := cn ci) hx hb hts (cls_ws hci) (cty ci) (fun k hk => (cls_fld hci hk).2) (cls_nm hci) hown hK hP wl_D hS k he (clsL_get hci) j hj (hts _ (gw_of (rs_in hrs) rfl)) (fun _ h => h) hf (cls_fld hci hj).2 hn hfit hl2 hdg (fun H1 l1 h1 _ h3 => kk H1 l1 (hw ▸ h1) h3)
    · exact va_putN (own := cn (mc M)) (ref := cn ci) (host := "ClaySeals") hx hb hts (cls_ws hci) (cty ci) (fun k hk => (cls_fld hci hk).2) (cls_nm hci) hown hK hP wl_D hS k he (clsL_get hci) j hj (va_Nw.use rfl (hnw _ _ _ _ _ _ hrs (Or.inl rfl))) (fun _ h => h) hf (cls_fld hci hj).2 hn hfit hl2 hdg (fun H1 l1 h1 _ h3 => kk H1 l1 (hw ▸ h1) h3)
  | true =>
    rcases hfin with h0 | ⟨rfl, h1, h2⟩
    · rw [hf] at h0; cases h0
    · exact va_putF (own := cn (mc M)) (ref := cn ci) hx hb hts (cls_ws hci) (cty ci) (fun k hk => (cls_fld hci hk).2) (cls_nm hci) hown hK hP wl_D hS k he (clsL_get hci) j hj (hts _ (gw_of (rs_in hrs) rfl)) (fun _ h => h) hf (hin h1) (by rw [← h2]; rfl) (cls_fld hci hj).2 hn hfit hl2 hdg (fun H1 l1 h1 _ h3 => kk H1 l1 (hw ▸ h1) h3)
theorem snd_put (C0 : CX X N0 b cA D p s m args meth c M) (hdg : decode (mb M) pc = .ok (.putfield idx, 3)) (hp : putS M idx st h = some (st', h')) (hP : va_P D clsL (wl N0 b cA h) H) (hS : va_S (fun q => N0 ≤ q) s.heap H locs)
    (kk : ∀ (H1 : Heap) (locs1 : List Loc), h'.1 = h.1 → va_P D clsL (wl N0 b cA h') H1 → va_S (fun q => N0 ≤ q) s.heap H1 locs1 → W p l e R s m args below meth c H1 locs1 cells slots Q (F0 m (pc + 3) lsC (st'.map (cv N0 b)))) : W p l e R s m args below meth c H locs cells slots Q (F0 m pc lsC (st.map (cv N0 b))) := by
  unfold putS at hp
  split at hp
  · rename_i v k r
    split at hp
    · rename_i t ci j pp hrs
      split at hp
      · rename_i hc
        obtain ⟨ht, hci, hj, hkd, hfin⟩ := hc
        cases hq : putV h k ci j v with
        | none => rw [hq] at hp; cases hp
        | some h2 =>
          rw [hq] at hp
          cases hp
          unfold putV at hq
          split at hq
          · rename_i x
            split at hq
            · rename_i hg
              cases hq
              have htg : ctg ci j ≠ 2 := by rcases hg with h | ⟨h, -⟩ <;> omega
              refine snd_putc (h' := setI h k j x) C0 hdg hrs ht hci hj hkd hfin ?_ ?_ (wl_upd (h := h) (h' := setI h k j x) rfl (fun a ha => ce_setI ha) ?_) hP hS (fun H1 l1 h1 h3 => kk H1 l1 rfl h1 h3)
              · rcases tg_fact hci hj with ⟨_, e⟩ | ⟨e1, e⟩ | ⟨e, _⟩
                · rw [e]; rfl
                · rcases hg with h | ⟨-, rfl | rfl⟩
                  · omega
                  · rw [e]; rfl
                  · rw [e]; rfl
                · omega
              · rcases tg_fact hci hj with ⟨_, e⟩ | ⟨e1, e⟩ | ⟨e, _⟩
                · rw [e]; rfl
                · rcases hg with h | ⟨-, rfl | rfl⟩
                  · omega
                  · rw [e]; rfl
                  · rw [e]; rfl
                · omega
              · have : (setI h k j x).1[k]? = some (ci + 3, cN ci) := hkd
                rw [map_set]
                simp only [ce, this]
                congr 2
                refine List.map_congr_left (fun i _ => ?_)
                by_cases e : i = j
                · subst e
                  simp [fval, htg, setI, up2, cv]
                · simp [fval, setI, up2, e]
            · cases hq
          · rename_i a
            split at hq
            · rename_i htg
              cases hq
              have hrk : refK (cty ci j) = true := by
                rcases tg_fact hci hj with ⟨e, _⟩ | ⟨e, _⟩ | ⟨_, e⟩
                · omega
                · omega
                · exact e
              refine snd_putc (h' := setR h k j (.ref a)) C0 hdg hrs ht hci hj hkd hfin ?_ ?_ (wl_upd (h := h) (h' := setR h k j (.ref a)) rfl (fun a ha => ce_setR ha) ?_) hP hS (fun H1 l1 h1 h3 => kk H1 l1 rfl h1 h3)
              · generalize cty ci j = ty at hrk
                cases ty <;> simp_all [refK, narrow, cv]
              · generalize cty ci j = ty at hrk
                cases ty <;> simp_all [refK, fits, cv]
              · have : (setR h k j (.ref a)).1[k]? = some (ci + 3, cN ci) := hkd
                rw [map_set]
                simp only [ce, this]
                congr 2
                refine List.map_congr_left (fun i _ => ?_)
                by_cases e : i = j
                · subst e
                  simp [fval, htg, setR, up2]
                · simp [fval, setR, up2, e]
            · cases hq
          · cases hq
      · cases hp
    · cases hp
  · cases hp
end SNDH
