theorem inR_y {v : Int32} {a b : Nat} (hb : b < 2 ^ 31) (hab : a ≤ b) (h : inR v a b = true) : ∃ j : Nat, a ≤ j ∧ j ≤ b ∧ v = nI j := by
  have h : nI a ≤ v ∧ v ≤ nI b := by simpa [inR] using h
  have h0 : 0 ≤ v := by
    have h1 := Int32.le_iff_toInt_le.mp h.1
    rw [nI_toInt (by omega)] at h1
    exact Int32.le_iff_toInt_le.mpr (by rw [show (0 : Int32).toInt = 0 from rfl]; omega)
  obtain ⟨j, hj, rfl⟩ := nI_of2 (n := b) (M := nI b) (nI_toInt hb) (Int32.not_lt.mpr h0) h.2
  exact ⟨j, (nI_leI (by omega) (by omega)).mp h.1, hj, rfl⟩
theorem b2i_t : b2i true = 1 := rfl
theorem b2i_f : b2i false = 0 := rfl
theorem nI_n0 {n : Nat} (h0 : 0 < n) (h : n < 2 ^ 31) : ¬ nI n = 0 := nI_ne0 h0 h
theorem s_trace : St_trace Inv := by
  intro M h
  obtain ⟨n, kd, ld, br, ht, dr, hd, tr, hL, hS, h3, h4, h5, h6⟩ := id h
  exact ⟨M 0 10, rfl, by unfold f_X11_trace; rw [hS.2.2], h⟩
theorem s_fault : St_fault Inv := by
  intro M h
  obtain ⟨n, kd, ld, br, ht, dr, hd, tr, hL, hS, h3, h4, h5, h6⟩ := id h
  exact ⟨M 0 11, rfl, by unfold f_X11_fault; rw [hS.2.1], h⟩
theorem s_many : St_many Inv := by
  intro M h a1
  obtain ⟨n, kd, ld, br, ht, dr, hd, tr, hL, hS, h3, ⟨p, q, p1, p2, p3, p4, p5, p6⟩, h5, ⟨c, c1, c2, c3, c4⟩⟩ := id h
  have e0 : M 83 5 = M 20 3 := hL.2.1.1.trans hL.1.1.symm
  have e1 : M 83 6 = M 23 4 := hL.2.1.2.2.2.2.2.2.1.trans hL.1.2.2.2.2.2.2.1.symm
  have e2 : M 83 7 = M 23 5 := hL.2.1.2.2.2.2.2.2.2.trans hL.1.2.2.2.2.2.2.2.symm
  have e3 : M 83 8 = M 23 3 := hS.1.symm
  have e4 : M 83 21 = M 27 1 := p5.trans p3.symm
  have e5 : M 83 35 = M 61 3 := c3.trans c2.symm
  have h10 : ∃ r, f_X10_many M a1 = some r := by
    unfold f_X10_many
    repeat' split
    all_goals exact ⟨_, rfl⟩
  obtain ⟨r, hr⟩ := h10
  refine ⟨r, hr, ?_, h⟩
  rw [← hr]
  unfold f_X11_many f_X10_many
  rw [e0, e1, e2, e3, e4, e5]
theorem s_hire : St_hire Inv := by
  intro M h a1
  obtain ⟨n, kd, ld, br, ht, dr, hd, tr, hL, hS, h3, h4, h5, h6⟩ := id h
  have hc := hL.n1
  have hm := hL.n2
  cases hin : inR a1 1 6 with
  | false => exact ⟨-2, M, M, by simp [f_X10_hire, w10_1_6, hin, br_s, b2i0], by simp [f_X11_hire, w11_1_6, hin, br_s, b2i0], h⟩
  | true =>
    by_cases hn : n = 0
    · subst hn
      exact ⟨-3, M, M, by simp [f_X10_hire, w10_1_6, hin, br_s, b2i0, hc, nI_0], by simp [f_X11_hire, w11_1_6, hin, br_s, b2i0, hm, nI_0], h⟩
    · have hz : ¬ nI n = 0 := nI_n0 (by omega) (by have := hL.n8; omega)
      obtain ⟨v, v1, v2, rfl⟩ := inR_y (by omega) (by omega) hin
      refine ⟨nI hd, up2 M 23 4 (nI v), up2 (up2 M 23 4 (nI v)) 83 6 (nI v), by simp [f_X10_hire, w10_1_6, hin, br_s, b2i0, hc, hz, nm_eq, hL.aC], by simp [f_X11_hire, w11_1_6, hin, br_s, b2i0, nm_eq, up2_eq, hm, hz, hL.aM], ?_⟩
      have ag : ∀ k j, ¬ (k = 23 ∧ j = 4) → ¬ (k = 83 ∧ j = 6) → up2 (up2 M 23 4 (nI v)) 83 6 (nI v) k j = M k j := fun k j r1 r2 => by rw [up2_of r2, up2_of r1]
      refine ⟨n, kd, ld, br, ht, dr, v, tr, hL.chg (fun k j r => ag k j (by omega) (by omega)) (hL.eL fun k j r _ => ag k j (by omega) (by omega)) (hL.eB fun k j r _ => ag k j (by omega) (by omega)) (hL.eH fun k j r _ => ag k j (by omega) (by omega)) ⟨by simp [up2_eq], by simp [up2_eq], v2, Or.inr v1⟩ (hL.e5 (ag _ _ (by omega) (by omega)) (ag _ _ (by omega) (by omega))), hS.cong (fun k j r => ag k j (by unfold relMs at r; omega) (by unfold relMs at r; omega)), h3.cong (fun k j r => ag k j (by unfold relSh at r; omega) (by unfold relSh at r; omega)), h4.cong (fun k j r => ag k j (by unfold relPs at r; omega) (by unfold relPs at r; omega)), h5.cong (fun k j r => ag k j (by unfold relIm at r; omega) (by unfold relIm at r; omega)), h6.cong (fun k j r => ag k j (by unfold relRd at r; omega) (by unfold relRd at r; omega))⟩
theorem s_trim : St_trim Inv := by
  intro M h a1
  obtain ⟨n, kd, ld, br, ht, dr, hd, tr, hL, hS, h3, h4, h5, h6⟩ := id h
  have hc := hL.n1
  have hm := hL.n2
  cases hin : inR a1 1 9 with
  | false => exact ⟨-2, M, M, by simp [f_X10_trim, w10_1_9, hin, br_s, b2i0], by simp [f_X11_trim, w11_1_9, hin, br_s, b2i0], h⟩
  | true =>
    by_cases hn : n = 0
    · subst hn
      exact ⟨-3, M, M, by simp [f_X10_trim, w10_1_9, hin, br_s, b2i0, hc, nI_0], by simp [f_X11_trim, w11_1_9, hin, br_s, b2i0, hm, nI_0], h⟩
    · have hz : ¬ nI n = 0 := nI_n0 (by omega) (by have := hL.n8; omega)
      obtain ⟨v, v1, v2, rfl⟩ := inR_y (by omega) (by omega) hin
      refine ⟨nI tr, up2 M 23 5 (nI v), up2 (up2 M 23 5 (nI v)) 83 7 (nI v), by simp [f_X10_trim, w10_1_9, hin, br_s, b2i0, hc, hz, nm_eq, hL.tC], by simp [f_X11_trim, w11_1_9, hin, br_s, b2i0, nm_eq, up2_eq, hm, hz, hL.tM], ?_⟩
      have ag : ∀ k j, ¬ (k = 23 ∧ j = 5) → ¬ (k = 83 ∧ j = 7) → up2 (up2 M 23 5 (nI v)) 83 7 (nI v) k j = M k j := fun k j r1 r2 => by rw [up2_of r2, up2_of r1]
      refine ⟨n, kd, ld, br, ht, dr, hd, v, hL.chg (fun k j r => ag k j (by omega) (by omega)) (hL.eL fun k j r _ => ag k j (by omega) (by omega)) (hL.eB fun k j r _ => ag k j (by omega) (by omega)) (hL.eH fun k j r _ => ag k j (by omega) (by omega)) (hL.e4 (ag _ _ (by omega) (by omega)) (ag _ _ (by omega) (by omega))) ⟨by simp [up2_eq], by simp [up2_eq], v2, Or.inr v1⟩, hS.cong (fun k j r => ag k j (by unfold relMs at r; omega) (by unfold relMs at r; omega)), h3.cong (fun k j r => ag k j (by unfold relSh at r; omega) (by unfold relSh at r; omega)), h4.cong (fun k j r => ag k j (by unfold relPs at r; omega) (by unfold relPs at r; omega)), h5.cong (fun k j r => ag k j (by unfold relIm at r; omega) (by unfold relIm at r; omega)), h6.cong (fun k j r => ag k j (by unfold relRd at r; omega) (by unfold relRd at r; omega))⟩
