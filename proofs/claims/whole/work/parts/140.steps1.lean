theorem Inv.chgMs {M M2 : MM} (h : Inv M) (ag : ∀ k j, ¬ relMs k j → M2 k j = M k j) (e : MsI M2) : Inv M2 := by
  obtain ⟨n, kd, ld, br, ht, dr, hd, tr, hL, hS, h3, h4, h5, h6⟩ := h
  exact ⟨n, kd, ld, br, ht, dr, hd, tr, hL.cong (fun k j r => ag k j (by unfold relLo at r; unfold relMs; omega)), e, h3.cong (fun k j r => ag k j (by unfold relSh at r; unfold relMs; omega)), h4.cong (fun k j r => ag k j (by unfold relPs at r; unfold relMs; omega)), h5.cong (fun k j r => ag k j (by unfold relIm at r; unfold relMs; omega)), h6.cong (fun k j r => ag k j (by unfold relRd at r; unfold relMs; omega))⟩
theorem Inv.chgSh {M M2 : MM} (h : Inv M) (ag : ∀ k j, ¬ relMs k j → ¬ relSh k → M2 k j = M k j) (e : MsI M2) (e3 : ShI M2) : Inv M2 := by
  obtain ⟨n, kd, ld, br, ht, dr, hd, tr, hL, hS, h3, h4, h5, h6⟩ := h
  exact ⟨n, kd, ld, br, ht, dr, hd, tr, hL.cong (fun k j r => ag k j (by unfold relLo at r; unfold relMs; omega) (by unfold relLo at r; unfold relSh; omega)), e, e3, h4.cong (fun k j r => ag k j (by unfold relPs at r; unfold relMs; omega) (by unfold relPs at r; unfold relSh; omega)), h5.cong (fun k j r => ag k j (by unfold relIm at r; unfold relMs; omega) (by unfold relIm at r; unfold relSh; omega)), h6.cong (fun k j r => ag k j (by unfold relRd at r; unfold relMs; omega) (by unfold relRd at r; unfold relSh; omega))⟩
theorem Inv.chgRd {M M2 : MM} (h : Inv M) (ag : ∀ k j, ¬ relRd k j → M2 k j = M k j) (e : ∀ n, n ≤ 8 → M 20 3 = nI n → RdI M n → RdI M2 n) : Inv M2 := by
  obtain ⟨n, kd, ld, br, ht, dr, hd, tr, hL, hS, h3, h4, h5, h6⟩ := h
  exact ⟨n, kd, ld, br, ht, dr, hd, tr, hL.cong (fun k j r => ag k j (by unfold relLo at r; unfold relRd; omega)), hS.cong (fun k j r => ag k j (by unfold relMs at r; unfold relRd; omega)), h3.cong (fun k j r => ag k j (by unfold relSh at r; unfold relRd; omega)), h4.cong (fun k j r => ag k j (by unfold relPs at r; unfold relRd; omega)), h5.cong (fun k j r => ag k j (by unfold relIm at r; unfold relRd; omega)), e n hL.n8 hL.n1 h6⟩
/-- a fault is set on both sides -/
theorem Inv.flt {M : MM} (h : Inv M) (f g f2 g2 : Int32) (e : f2 = g2) : Inv (up2 (up2 (up2 (up2 M 0 11 f) 0 11 f2) 83 0 g) 83 0 g2) := by
  refine h.chgMs (fun k j r => ?_) ?_
  · unfold relMs at r
    rw [up2_of (by omega), up2_of (by omega), up2_of (by omega), up2_of (by omega)]
  · obtain ⟨n, kd, ld, br, ht, dr, hd, tr, hL, hS, h3, h4, h5, h6⟩ := h
    subst e
    refine ⟨?_, ?_, ?_⟩ <;> simp [up2_eq, hS.1, hS.2.2]
theorem Inv.flt1 {M : MM} (h : Inv M) (f : Int32) : Inv (up2 (up2 M 0 11 f) 83 0 f) := by
  refine h.chgMs (fun k j r => ?_) ?_
  · unfold relMs at r
    rw [up2_of (by omega), up2_of (by omega)]
  · obtain ⟨n, kd, ld, br, ht, dr, hd, tr, hL, hS, h3, h4, h5, h6⟩ := h
    refine ⟨?_, ?_, ?_⟩ <;> simp [up2_eq, hS.1, hS.2.2]
theorem s_as : St_as Inv := by
  intro M h a1 a2
  obtain ⟨n, kd, ld, br, ht, dr, hd, tr, hL, hS, h3, h4, h5, h6⟩ := id h
  have hc : (up2 M 0 11 0) 20 3 = nI n := by simp [up2_eq, hL.n1]
  have hm : (up2 (up2 M 0 11 0) 83 0 0) 83 5 = nI n := by simp [up2_eq, hL.n2]
  have hm2 : (up2 (up2 (up2 M 0 11 0) 0 11 2) 83 0 0) 83 5 = nI n := by simp [up2_eq, hL.n2]
  have n8 := hL.n8
  cases hin : hb n a1 with
  | false => exact ⟨-1, up2 M 0 11 0, up2 (up2 M 0 11 0) 83 0 0, by simp only [f_X10_as, nm_eq, c_has hc, hin, br_s, b2i0, if_true], by simp only [f_X11_as, nm_eq, m_has hm, hin, br_s, b2i0, if_true], h.flt1 0⟩
  | true =>
    obtain ⟨j, hj, rfl⟩ := hb_yes (by omega) hin
    have hj8 : j < 8 := by omega
    have bj : ib (nI j) 8 = true := ib_ok hj8 (by omega)
    cases hs : inR a2 0 2 with
    | false => exact ⟨-2, up2 M 0 11 0, up2 (up2 M 0 11 0) 83 0 0, by simp [f_X10_as, nm_eq, c_has hc, hin, br_s, b2i0, w10_0_2, hs], by simp [f_X11_as, nm_eq, m_has hm, hin, br_s, b2i0, w11_0_2, hs], h.flt1 0⟩
    | true =>
      obtain ⟨s, s1, rfl⟩ := inR_yes0 (by omega) hs
      have hk := (hL.rg hj8).1
      by_cases hle : s ≤ kd j
      · have q1 : nI s ≤ nI (kd j) := nI_le hle (by omega)
        have q2 : ¬ nI (kd j) < nI s := Int32.not_lt.mpr q1
        exact ⟨1, up2 M 0 11 0, up2 (up2 M 0 11 0) 83 0 0, by simp [f_X10_as, nm_eq, c_has hc, hin, br_s, b2i0, w10_0_2, hs, bj, nI_clamp (show j < 2 ^ 31 by omega), up2_eq, hL.kC hj8, q1], by simp [f_X11_as, nm_eq, m_has hm, hin, br_s, b2i0, w11_0_2, hs, bj, nI_clamp (show j < 2 ^ 31 by omega), up2_eq, hL.kM hj8, q2], h.flt1 0⟩
      · have q2 : nI (kd j) < nI s := nI_lt (by omega) (by omega)
        have q1 : ¬ nI s ≤ nI (kd j) := Int32.not_le.mpr q2
        exact ⟨-12, up2 (up2 M 0 11 0) 0 11 2, up2 (up2 (up2 (up2 M 0 11 0) 0 11 2) 83 0 0) 83 0 2, by simp [f_X10_as, nm_eq, c_has hc, hin, br_s, bi_s, b2i0, w10_0_2, hs, bj, nI_clamp (show j < 2 ^ 31 by omega), up2_eq (up2 M 0 11 0) , up2_eq M, hL.kC hj8, q1, f_X10_faulted], by simp [f_X11_as, nm_eq, m_has hm2, hin, br_s, bi_s, b2i0, w11_0_2, hs, bj, nI_clamp (show j < 2 ^ 31 by omega), up2_eq, hL.kM hj8, q2, f_X11_fails], h.flt 0 0 2 2 rfl⟩
