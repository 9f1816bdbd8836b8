/-! the start, the end -/
theorem W4_z {k j : Nat} (hk : k ≠ 50) : W4 k j = nI 0 := by
  unfold W4 W3 W2 W1 up2
  rw [if_neg hk, if_neg hk, if_neg hk, if_neg hk]
  rfl
theorem W4_50 : ∀ s, s < 4 → W4 50 s = -1 := by decide
def SZ : ST := fun _ _ => 0
theorem WF_0 : WF SZ := by
  refine ⟨⟨by decide, fun _ => by show (0 : Nat) < 256; omega⟩, ⟨by decide, fun r hr => absurd hr (Nat.not_lt_zero r)⟩, ⟨by decide, fun r hr => absurd hr (Nat.not_lt_zero r)⟩, ⟨by decide, fun r hr => absurd hr (Nat.not_lt_zero r)⟩, by decide, ⟨fun s hs => ⟨by show (0 : Nat) ≤ 1; omega, by show (0 : Nat) < 3; omega, by show (0 : Nat) ≤ 48; omega⟩, fun i => by show (0 : Nat) < 4294967296; omega⟩, by decide⟩
theorem WT_0 : WT SZ := ⟨fun s hs => ⟨by show (0 : Nat) ≤ 1; omega, by show (0 : Nat) < 3; omega, by show (0 : Nat) ≤ 48; omega⟩, fun i => by show (0 : Nat) < 4294967296; omega, by decide⟩
theorem CR_0 : CR (fun _ => 0) 0 SZ SZ W4 (fun _ _ => 0) := by
  refine ⟨⟨W4_z (by omega), by omega, fun i hi => by omega, fun _ => by show (0 : Nat) < 256; omega⟩, ⟨WF_0, ⟨W4_z (by omega), fun r hr => absurd hr (Nat.not_lt_zero r)⟩, ⟨W4_z (by omega), fun r hr => absurd hr (Nat.not_lt_zero r)⟩, ⟨W4_z (by omega), W4_z (by omega), fun r hr => absurd hr (Nat.not_lt_zero r)⟩⟩, ⟨⟨fun r hr => ⟨W4_z (by omega), W4_z (by omega)⟩, fun q hq => ⟨W4_z (by omega), W4_z (by omega)⟩⟩, Or.inl (W4_z (by omega))⟩, Or.inl (W4_z (by omega)), ⟨WT_0, W4_z (by omega), fun s hs => ?_⟩⟩
  rw [if_pos (show SZ 19 s = 0 from rfl)]
  exact W4_50 s hs
theorem MR_0 : MR (fun _ => 0) 0 SZ SZ W4 (fun _ _ => 0) := by
  refine ⟨⟨W4_z (by omega), by omega, fun i hi => by omega, fun _ => by show (0 : Nat) < 256; omega⟩, ⟨WF_0, ⟨W4_z (by omega), fun r hr => absurd hr (Nat.not_lt_zero r)⟩, ⟨W4_z (by omega), fun r hr => absurd hr (Nat.not_lt_zero r)⟩, ⟨W4_z (by omega), W4_z (by omega), fun r hr => absurd hr (Nat.not_lt_zero r)⟩⟩, Or.inl (W4_z (by omega)), ⟨WT_0, W4_z (by omega), fun s hs => ⟨W4_z (by omega), fun h => ?_⟩⟩⟩
  exact absurd h (by show ¬ (0 : Nat) = 1; omega)
theorem law_wp {X : AX} (h2 : X.1 ≤ 3072) : wp X 40 m_L_law 0 (ent [.float 0] 4) [] hZ (fun r h' => r = some (.int 1) ∧ h'.1.length ≤ 600000 ∧ slC h' ≤ 7302250) := by
  refine (I_law (d := 37)).mpr ?_
  rw [H_end]
  refine law_loop (d := 0) (by omega) (fun g hj => ⟨rfl, ?_, ?_⟩) (X.1 + 1) 0 _ _ _ _ W4 _ (by omega) (by omega) CR_0 MR_0
  · show KF.length ≤ 600000
    decide
  · have e : slC (HP W4 fun _ _ => 0) ≤ 7302250 := by decide +kernel
    exact e
theorem whole_start {p : Program} {e : Env} {s : State} {m : MethodId} {below : List Frame} {meth : Method} {c : Code} (l : Launch) (hflags : l.flags = flags0) {b L : Nat} {xs : Nat → Int32} (hL : L ≤ 3072) (C0 : lw_At p s m meth c b L xs) : W p l e room_1 s m #[Value.ref b] below meth c s.heap [] 0 0 (lw_Z below #[Value.ref b] s) (entryFrame m ([Value.ref b] : List Value).toArray 4) := walk_of l (d := 40) (by omega) C0 (law_wp (X := (L, xs)) hL)
