section SNDH3
variable {p : Program} {l : Launch} {e : Env} {R : Room} {s : State} {m : MethodId} {args : Array Value} {below : List Frame} {meth : Method} {c : Code} {H : Heap} {locs : List Loc} {cells slots : Nat} {Q : State → Prop}
variable {X : AX} {N0 b M pc idx : Nat} {cA : Nat → ClassId} {D : va_G} {lsC : Array Slot} {st st' : List Value} {h h' : AH}
theorem ce_I0 {k n j : Nat} {x : Int32} (hkd : h.1[k]? = some (0, n)) : Sum.inl (cA 0, n, .inl (upd (h.2.1 k) j x)) = ce N0 b cA (setI h k j x) k := by
  have e : (setI h k j x).1[k]? = some (0, n) := hkd
  unfold ce
  rw [e]
  simp only [setI, up2_row]
  rfl
theorem ce_I2 {k n j : Nat} {x : Int32} (hkd : h.1[k]? = some (2, n)) : Sum.inl (cA 2, n, .inl (upd (h.2.1 k) j x)) = ce N0 b cA (setI h k j x) k := by
  have e : (setI h k j x).1[k]? = some (2, n) := hkd
  unfold ce
  rw [e]
  simp only [setI, up2_row]
  rfl
theorem ce_J1 {k n j : Nat} {x : Int64} (hkd : h.1[k]? = some (1, n)) : Sum.inl (cA 1, n, .inr (.inl (vp_updL (h.2.2.1 k) j x))) = ce N0 b cA (setJ h k j x) k := by
  have e : (setJ h k j x).1[k]? = some (1, n) := hkd
  unfold ce
  rw [e]
  simp only [setJ, up2_row]
  rfl
theorem jdk_len (hp : jdkS M idx st h = some (st', h')) : h'.1 = h.1 := by
  unfold jdkS at hp
  split at hp
  · split at hp
    · split at hp
      · split at hp
        · split at hp
          · split at hp
            · cases hp; rfl
            · cases hp
          · cases hp
        · split at hp
          · cases hp; rfl
          · split at hp
            · cases hp; rfl
            · cases hp
      · split at hp
        · cases hp; rfl
        · split at hp
          · cases hp; rfl
          · cases hp
      · cases hp
    · cases hp
  · cases hp
theorem cats_le {r : List Value} {st : List Value} {pre : List Value} (hst : st = pre ++ r) (h : (st.map fun v => v.category).sum ≤ 20) : ((r.map (cv N0 b)).map fun v => v.category).sum ≤ 20 := by
  rw [cv_cats]
  subst hst
  rw [List.map_append, List.sum_append] at h
  omega
theorem ncpy : nativeFrameWords "java/lang/System" "arraycopy" 5 + 11 ≤ 40 := by decide +kernel
set_option maxHeartbeats 4000000 in
theorem snd_jdk (C0 : CX X N0 b cA D p s m args meth c M) (hdg : decode (mb M) pc = .ok (.invokestatic idx, 3)) (hp : jdkS M idx st h = some (st', h')) (hP : va_P D clsL (wl N0 b cA h) H) (hS : va_S (fun q => N0 ≤ q) s.heap H locs) (hls : lsC.size = mL M) (hR : 1 ≤ R.frames ∧ 60 ≤ R.locals) (hc1 : cells ≤ R.cells) (hc2 : slots ≤ R.slots)
    (kk : ∀ (H1 : Heap) (locs1 : List Loc), h'.1 = h.1 → va_P D clsL (wl N0 b cA h') H1 → va_S (fun q => N0 ≤ q) s.heap H1 locs1 → W p l e R s m args below meth c H1 locs1 cells slots Q (F0 m (pc + 3) lsC (st'.map (cv N0 b)))) : W p l e R s m args below meth c H locs cells slots Q (F0 m pc lsC (st.map (cv N0 b))) := by
  obtain ⟨⟨hx, hb, hml, hr, hlk, hown, hin⟩, hts, hnw, hK, hX, hbN, hN⟩ := C0
  have hml2 : c.maxLocals = lsC.size := by rw [hml, hls]
  have jmax : ∀ {x y : Int32} {r : List Value} {a k q : Nat}, rs (mc M) idx = some (9, a, k, q) → (((r.map (cv N0 b)).map fun v => v.category).sum ≤ 20) → W p l e R s m args below meth c H locs cells slots Q (F0 m (pc + 3) lsC (.int (if x < y then y else x) :: r.map (cv N0 b))) → W p l e R s m args below meth c H locs cells slots Q (F0 m pc lsC (.int y :: .int x :: r.map (cv N0 b))) :=
    fun hrs hcat hk => va_mmax hx hb hml2 hown (hts _ (gw_of (rs_in hrs) rfl)) (hts _ (gw_of jdm_ok.2.1 rfl)) (hts _ (gw_of jdm_ok.1 rfl)) (hts _ (gw_of jdm_ok.2.2.1 rfl)) hR.1 (by omega) hc1 hc2 hdg hk
  have jmin : ∀ {x y : Int32} {r : List Value} {a k q : Nat}, rs (mc M) idx = some (10, a, k, q) → (((r.map (cv N0 b)).map fun v => v.category).sum ≤ 20) → W p l e R s m args below meth c H locs cells slots Q (F0 m (pc + 3) lsC (.int (if y < x then y else x) :: r.map (cv N0 b))) → W p l e R s m args below meth c H locs cells slots Q (F0 m pc lsC (.int y :: .int x :: r.map (cv N0 b))) :=
    fun hrs hcat hk => va_mmin hx hb hml2 hown (hts _ (gw_of (rs_in hrs) rfl)) (hts _ (gw_of jdm_ok.2.2.2.1 rfl)) (hts _ (gw_of jdm_ok.1 rfl)) (hts _ (gw_of jdm_ok.2.2.2.2 rfl)) hR.1 (by omega) hc1 hc2 hdg hk
  unfold jdkS at hp
  split at hp
  · rename_i t a k q hrs
    split at hp
    · rename_i hcat
      split at hp
      · rename_i n dp k1 sp k0 r
        have hcr : ((r.map (cv N0 b)).map fun v => v.category).sum ≤ 20 := cats_le (pre := [.int n, .int dp, .ref k1, .int sp, .ref k0]) rfl hcat
        have hcr2 : (((.ref k1 :: .int sp :: .ref k0 :: r).map (cv N0 b)).map fun v => v.category).sum ≤ 20 := cats_le (pre := [.int n, .int dp]) rfl hcat
        split at hp
        · rename_i ht
          subst ht
          split at hp
          · rename_i n0 n1 hk0 hk1
            split at hp
            · rename_i hc
              obtain ⟨g1, g2, g3, g4, g5⟩ := hc
              cases hp
              refine va_copyi hx hb hml2 hown (hts _ (gw_of (rs_in hrs) rfl)) (hts _ (gw_of jdk_ok.1 rfl)) (hts _ (gw_of jdk_ok.2.1 rfl)) (hts _ (gw_of jdk_ok.2.2.1 rfl)) hK hP wl_D hS k0 k1 0 0 (wl_0 hk0) (wl_0 hk1) (ty := .int) rfl rfl rfl g1 g2 g3 g4 g5 (fun _ _ => rfl) hR.1 (by have := ncpy; omega) hdg (fun H1 l1 h1 _ h3 => kk H1 l1 rfl ?_ h3)
              rw [wl_upd (h := h) (h' := (h.1, upr h.2.1 k1 (va_cpy (h.2.1 k0) (h.2.1 k1) sp.toNatClampNeg dp.toNatClampNeg n.toNatClampNeg), h.2.2.1, h.2.2.2)) rfl (fun a ha => by simp only [ce, fval, upr, if_neg ha]) (by simp only [ce, hk1, upr, if_true])] at h1
              exact h1
            · cases hp
          · cases hp
        · split at hp
          · rename_i ht
            subst ht
            cases hp
            exact jmax (r := .ref k1 :: .int sp :: .ref k0 :: r) hrs hcr2 (kk H locs rfl hP hS)
          · split at hp
            · rename_i ht
              subst ht
              cases hp
              exact jmin (r := .ref k1 :: .int sp :: .ref k0 :: r) hrs hcr2 (kk H locs rfl hP hS)
            · cases hp
      · rename_i y x r _
        have hcr : ((r.map (cv N0 b)).map fun v => v.category).sum ≤ 20 := cats_le (pre := [.int y, .int x]) rfl hcat
        split at hp
        · rename_i ht
          subst ht
          cases hp
          exact jmax hrs hcr (kk H locs rfl hP hS)
        · split at hp
          · rename_i ht
            subst ht
            cases hp
            exact jmin hrs hcr (kk H locs rfl hP hS)
          · cases hp
      · cases hp
    · cases hp
  · cases hp
set_option maxHeartbeats 4000000 in
theorem snd_h {i : Instr} {len : Nat} (C0 : CX X N0 b cA D p s m args meth c M) (hdg : decode (mb M) pc = .ok (i, len)) (hlen : lenOK i len = true) (hp : hstep X M i st h = some (st', h')) (hP : va_P D clsL (wl N0 b cA h) H) (hS : va_S (fun q => N0 ≤ q) s.heap H locs) (hls : lsC.size = mL M) (hR : 1 ≤ R.frames ∧ 60 ≤ R.locals) (hsz : s.heap.size + cells = N0 + h.1.length) (hc1 : cells + h'.1.length ≤ R.cells + h.1.length) (hc2 : slots + slC h' ≤ R.slots + slC h)
    (kk : ∀ (H1 : Heap) (locs1 : List Loc) (cells1 slots1 : Nat), va_P D clsL (wl N0 b cA h') H1 → va_S (fun q => N0 ≤ q) s.heap H1 locs1 → cells1 + h.1.length = cells + h'.1.length → slots1 + slC h = slots + slC h' → W p l e R s m args below meth c H1 locs1 cells1 slots1 Q (F0 m (pc + len) lsC (st'.map (cv N0 b)))) : W p l e R s m args below meth c H locs cells slots Q (F0 m pc lsC (st.map (cv N0 b))) := by
  have ks : ∀ (H1 : Heap) (locs1 : List Loc), h'.1 = h.1 → va_P D clsL (wl N0 b cA h') H1 → va_S (fun q => N0 ≤ q) s.heap H1 locs1 → W p l e R s m args below meth c H1 locs1 cells slots Q (F0 m (pc + len) lsC (st'.map (cv N0 b))) :=
    fun H1 l1 he h1 h2 => kk H1 l1 cells slots h1 h2 (by rw [he]) (by unfold slC; rw [he])
  obtain ⟨⟨hx, hb, hml, hr, hlk, hown, hin⟩, hts, hnw, hK, hX, hbN, hN⟩ := id C0
  cases i <;> simp only [hstep, reduceCtorEq] at hp <;> simp only [lenOK, decide_eq_true_eq] at hlen <;> subst hlen
  case getfield idx => exact snd_get C0 hdg hp hP (fun he => by subst he; exact ks H locs rfl hP hS)
  case putfield idx => exact snd_put C0 hdg hp hP hS ks
  case iaload =>
    split at hp
    · rename_i i k r
      split at hp
      · rename_i n hkd
        split at hp
        · rename_i hi; cases hp; exact va_iald hx hb hK hP k 0 (wl_0 hkd) rfl (inb_in hi) hdg (ks H locs rfl hP hS)
        · cases hp
      · cases hp
    · rename_i i z r
      split at hp
      · rename_i hi; cases hp; exact va_sld hx hb hX (Nat.lt_of_lt_of_le hbN hN) (A := fun q => N0 ≤ q) (by omega) hS (inb_in hi) hdg (ks H locs rfl hP hS)
      · cases hp
    · cases hp
  case laload =>
    split at hp
    · rename_i i k r
      split at hp
      · rename_i n hkd
        split at hp
        · rename_i hi; cases hp; exact va_lald hx hb hK hP k 1 (wl_1 hkd) rfl (inb_in hi) hdg (ks H locs rfl hP hS)
        · cases hp
      · cases hp
    · cases hp
  case baload =>
    split at hp
    · rename_i i k r
      split at hp
      · rename_i n hkd
        split at hp
        · rename_i hi; cases hp; exact va_zald hx hb hK hP k 2 (wl_2 hkd) rfl (inb_in hi) hdg (ks H locs rfl hP hS)
        · cases hp
      · cases hp
    · cases hp
  case iastore =>
    split at hp
    · rename_i x i k r
      split at hp
      · rename_i n hkd
        split at hp
        · rename_i hi
          cases hp
          refine va_iast hx hb hK hP wl_D hS k 0 (wl_0 hkd) rfl (inb_in hi) hdg (fun H1 l1 h1 _ h3 => ks H1 l1 rfl ?_ h3)
          rw [wl_upd (h := h) (h' := setI h k i.toNatClampNeg x) rfl (fun a ha => ce_setI ha) (ce_I0 hkd)] at h1
          exact h1
        · cases hp
      · cases hp
    · cases hp
  case lastore =>
    split at hp
    · rename_i x i k r
      split at hp
      · rename_i n hkd
        split at hp
        · rename_i hi
          cases hp
          refine va_last hx hb hK hP wl_D hS k 1 (wl_1 hkd) rfl (inb_in hi) hdg (fun H1 l1 h1 _ h3 => ks H1 l1 rfl ?_ h3)
          rw [wl_upd (h := h) (h' := setJ h k i.toNatClampNeg x) rfl (fun a ha => ce_setJ ha) (ce_J1 hkd)] at h1
          exact h1
        · cases hp
      · cases hp
    · cases hp
  case bastore =>
    split at hp
    · rename_i x i k r
      split at hp
      · rename_i n hkd
        split at hp
        · rename_i hi
          obtain ⟨hi, hx01⟩ := hi
          cases hp
          have hnar : vp_nar .boolean x = x := by rcases hx01 with rfl | rfl <;> rfl
          refine va_zast hx hb hK hP wl_D hS k 2 (wl_2 hkd) rfl (inb_in hi) hdg (fun H1 l1 h1 _ h3 => ks H1 l1 rfl ?_ h3)
          rw [hnar, wl_upd (h := h) (h' := setI h k i.toNatClampNeg x) rfl (fun a ha => ce_setI ha) (ce_I2 hkd)] at h1
          exact h1
        · cases hp
      · cases hp
    · cases hp
  case arraylength =>
    split at hp
    · rename_i z r
      cases hp
      exact va_slen hx hb hX (Nat.lt_of_lt_of_le hbN hN) (A := fun q => N0 ≤ q) (by omega) hS hdg (ks H locs rfl hP hS)
    · cases hp
  case newarray at_ =>
    split at hp
    · rename_i n r
      split at hp
      · rename_i g hg
        split at hp
        · rename_i hn
          cases hp
          rw [add_len] at hc1
          rw [slC_add] at hc2
          exact snd_newa C0 hdg hg hn.1 hn.2 hP hS hsz (by omega) (by omega) (fun H1 h1 h2 => kk H1 locs _ _ h1 h2 (by rw [add_len]; omega) (by rw [slC_add]; omega))
        · cases hp
      · cases hp
    · cases hp
  case new idx =>
    unfold newS at hp
    split at hp
    · rename_i t ci j pp hrs
      split at hp
      · rename_i hc
        obtain ⟨rfl, hci⟩ := hc
        cases hp
        rw [add_len] at hc1
        rw [slC_add] at hc2
        exact snd_new C0 hdg hrs hci hP hS hsz (by omega) (by omega) (fun H1 h1 h2 => kk H1 locs _ _ h1 h2 (by rw [add_len]; omega) (by rw [slC_add]; omega))
      · cases hp
    · cases hp
  case ldc idx =>
    unfold conS at hp
    split at hp
    · rename_i t a j pp hrs
      split at hp
      · rename_i ht; subst ht; cases hp; exact lv_ldc hx hb hown (hts _ (gw_of (rs_in hrs) rfl)) hdg (ks H locs rfl hP hS)
      · cases hp
    · cases hp
  case ldc_w idx =>
    unfold conS at hp
    split at hp
    · rename_i t a j pp hrs
      split at hp
      · rename_i ht; subst ht; cases hp; exact lv_ldcw hx hb hown (hts _ (gw_of (rs_in hrs) rfl)) hdg (ks H locs rfl hP hS)
      · cases hp
    · cases hp
  case ldc2_w idx =>
    unfold con2S at hp
    split at hp
    · rename_i t a j pp hrs
      split at hp
      · rename_i ht; subst ht; cases hp; exact lv_ldc2 hx hb hown (hts _ (gw_of (rs_in hrs) rfl)) hdg (ks H locs rfl hP hS)
      · cases hp
    · cases hp
  case invokespecial idx =>
    unfold objS at hp
    split at hp
    · rename_i t a j pp hrs
      split at hp
      · rename_i ht
        obtain ⟨rfl, hcat⟩ := ht
        split at hp
        · rename_i k r
          have hcr : ((r.map (cv N0 b)).map fun v => v.category).sum ≤ 20 := cats_le (pre := [.ref k]) rfl hcat
          simp only [Option.some.injEq, Prod.mk.injEq] at hp
          obtain ⟨rfl, rfl⟩ := hp
          exact W.objInit hx hb hown (hts _ (gw_of (rs_in hrs) rfl)) (hts _ (gw_of jdk_ok.2.2.2.1 rfl)) (hts _ (gw_of jdk_ok.2.2.2.2 rfl)) (g := F0 m pc lsC (.ref (N0 + k) :: r.map (cv N0 b))) rfl (by rw [hml]; exact hls) rfl hdg hR.1 (by show 2 * 0 + _ + 12 ≤ _; omega) (ks H locs rfl hP hS)
        · cases hp
      · cases hp
    · cases hp
  case invokestatic idx =>
    have e1 := jdk_len hp
    have e2 : slC h' = slC h := by unfold slC; rw [e1]
    rw [e1] at hc1
    exact snd_jdk C0 hdg hp hP hS hls hR (by omega) (by omega) ks
end SNDH3
