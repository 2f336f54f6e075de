-- the start: an empty loft
theorem M0_z {k j : Nat} (h : k ≠ 84) : M0 k j = 0 := by
  unfold M0 M11F
  rw [up2_of (by omega), up2_of (by omega), up2_of (by omega), up2_of (by omega)]
  rfl
theorem M0_s : ∀ k, k < 4 → M0 84 k = (-9 : Int32) := by decide +kernel
theorem inv_0 : Inv M0 := by
  have z : ∀ k j, k ≠ 84 → M0 k j = nI 0 := fun k j h => M0_z h
  refine ⟨0, fun _ => 0, fun _ => 0, fun _ => 0, fun _ => 0, fun _ => 0, 0, 0, ⟨⟨z _ _ (by omega), fun j _ => z _ _ (by omega), fun j _ => z _ _ (by omega), fun j _ => z _ _ (by omega), fun j _ => z _ _ (by omega), fun j _ => z _ _ (by omega), z _ _ (by omega), z _ _ (by omega)⟩, ⟨z _ _ (by omega), fun j _ => z _ _ (by omega), fun j _ => z _ _ (by omega), fun j _ => z _ _ (by omega), fun j _ => z _ _ (by omega), fun j _ => z _ _ (by omega), z _ _ (by omega), z _ _ (by omega)⟩, ⟨by omega, fun j _ => ⟨Nat.zero_le _, Nat.zero_le _, Nat.zero_le _, Nat.zero_le _, Nat.zero_le _⟩, by omega, by omega⟩, Or.inl rfl⟩, ⟨?_, ?_, ?_⟩, ?_, ?_, ?_, ?_⟩
  · rw [M0_z (by omega), M0_z (by omega)]
  · rw [M0_z (by omega), M0_z (by omega)]
  · rw [M0_z (by omega), M0_z (by omega)]
  · intro k hk
    have e1 : M0 (2 + 2 * k) 1 = 0 := M0_z (by omega)
    refine ⟨Or.inl e1, by rw [M0_s k hk, e1, if_pos rfl], fun q => ?_, by rw [M0_z (by omega), M0_z (by omega)], 0, by omega, z _ _ (by omega), fun i hi => by omega⟩
    rw [e1] at q
    exact absurd q (by decide)
  · exact ⟨0, 0, by omega, by omega, z _ _ (by omega), z _ _ (by omega), z _ _ (by omega), fun i hi => by omega⟩
  · intro i hi
    have e1 : M0 19 i = 0 := M0_z (by omega)
    refine ⟨Or.inl e1, by rw [M0_z (by omega), e1], fun q => ?_⟩
    rw [e1] at q
    exact absurd q (by decide)
  · exact ⟨0, by omega, z _ _ (by omega), z _ _ (by omega), fun i hi => by omega⟩
theorem all_steps : AllSt Inv := ⟨s_loft, s_ofBatten, s_seen, s_hides, s_hire, s_trim, s_fly, s_cue, s_hang, s_brick, s_undo, s_keep, s_restore, s_act, s_picture, s_split, s_crew, s_balance, s_reading, s_back, s_loads, s_weights, s_kinds, s_odds, s_sheet, s_lose, s_put, s_cell, s_copy, s_tell, s_call, s_as, s_trace, s_fault, s_many⟩
theorem whole_start {p : Program} {e : Env} {s : State} {m : MethodId} {below : List Frame} {meth : Method} {c : Code} (l : Launch) {b L : Nat} {xs : Nat → Int32} (hL : L ≤ 384) (C0 : lw_At p s m meth c b L xs) : W p l e room_1 s m #[Value.ref b] below meth c s.heap [] 0 0 (lw_Z below #[Value.ref b] s) (entryFrame m ([Value.ref b] : List Value).toArray 4) := whole_open inv_0 all_steps l hL C0
