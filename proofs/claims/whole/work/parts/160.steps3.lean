theorem Inv.trc {M M2 : MM} (h : Inv M) (ag : ∀ k j, ¬ (k = 0 ∧ j = 10) → ¬ (k = 83 ∧ j = 1) → M2 k j = M k j) (e : M2 0 10 = M2 83 1) : Inv M2 := by
  refine h.chgMs (fun k j r => ag k j (by unfold relMs at r; omega) (by unfold relMs at r; omega)) ?_
  obtain ⟨n, kd, ld, br, ht, dr, hd, tr, hL, hS, h3, h4, h5, h6⟩ := h
  exact ⟨by rw [ag 23 3 (by omega) (by omega), ag 83 8 (by omega) (by omega)]; exact hS.1, by rw [ag 0 11 (by omega) (by omega), ag 83 0 (by omega) (by omega)]; exact hS.2.1, e⟩
def trB (t b : Int32) : Int32 := (31 : Int32) * t + b
theorem leave_eq (M : MM) (b : Int32) : f_X10_leave M b = some (up2 M 0 10 (trB (M 0 10) b)) := rfl
theorem begins_eq (M : MM) (b : Int32) : f_X11_begins M b = some (up2 M 83 1 (trB (M 83 1) b)) := rfl
theorem up2_up2 (M : MM) (k j : Nat) (v w : Int32) : up2 (up2 M k j v) k j w = up2 M k j w := by
  funext a b
  simp only [up2_eq]
  split <;> rfl
theorem tw_d : ∀ l, l < 10 → nI l + (100 : Int32) + nI l = (2 : Int32) * nI l + (100 : Int32) := by decide +kernel
theorem s_tell : St_tell Inv := by
  intro M h a1
  obtain ⟨n, kd, ld, br, ht, dr, hd, tr, hL, hS, h3, h4, h5, h6⟩ := id h
  have n8 := hL.n8
  cases hin : hb n a1 with
  | false => exact ⟨-1, M, M, by simp [f_X10_tell, c_has hL.n1, hin, br_s, b2i0], by simp [f_X11_tell, m_has hL.n2, hin, br_s, b2i0], h⟩
  | true =>
    obtain ⟨j, hj, rfl⟩ := hb_yes (by omega) hin
    have hj8 : j < 8 := by omega
    have bj : ib (nI j) 8 = true := ib_ok hj8 (by omega)
    have cl := nI_clamp (show j < 2 ^ 31 by omega)
    have hr := hL.rg hj8
    have key : ∀ (T : Int32) (t : Int32) (r : Int32), (f_X10_tell M (nI j) = some (r, up2 M 0 10 T)) → (∀ M' : MM, M' 83 5 = nI n → M' 87 j = nI (kd j) → M' 88 j = nI (ld j) → M' 83 1 = M 0 10 → f_X11_tell M' (nI j) = some (r, up2 M' 83 1 T)) → ∃ r : Int32, ∃ M1 : MM, ∃ M2 : MM, f_X10_tell M (nI j) = some (r, M1) ∧ f_X11_tell M1 (nI j) = some (r, M2) ∧ Inv M2 := by
      intro T t r e1 e2
      refine ⟨r, _, _, e1, e2 (up2 M 0 10 T) (by simp [up2_eq, hL.n2]) (by simp [up2_eq, hL.kM hj8]) (by simp [up2_eq, hL.lM hj8]) (by simp [up2_eq, hS.2.2]), ?_⟩
      exact h.trc (fun k j r1 r2 => by rw [up2_of r2, up2_of r1]) (by simp [up2_eq])
    have hk : kd j = 0 ∨ kd j = 1 ∨ kd j = 2 := by omega
    rcases hk with hk | hk | hk
    · refine key (trB (M 0 10) 1) 0 (nI (ld j)) ?_ (fun M' g1 g2 g3 g4 => ?_)
      · simp [f_X10_tell, c_has hL.n1, hin, br_s, bi_s, b2i0, bj, cl, nm_eq, hL.kC hj8, hL.lC hj8, hk, nI_0, f_X10_lineTells, leave_eq]
      · simp [f_X11_tell, m_has g1, hin, br_s, b2i0, bj, cl, nm_eq, g2, g3, hk, show ¬ nI 0 = (1 : Int32) by decide, show ¬ nI 0 = (2 : Int32) by decide, begins_eq, g4]
    · refine key (trB (trB (M 0 10) 2) 1) 0 (nI (ld j) + 100) ?_ (fun M' g1 g2 g3 g4 => ?_)
      · simp [f_X10_tell, c_has hL.n1, hin, br_s, bi_s, b2i0, bj, cl, nm_eq, hL.kC hj8, hL.lC hj8, hk, show ¬ nI 1 = (0 : Int32) by decide, show nI 1 = (1 : Int32) from rfl, f_X10_lineTells, f_X10_arborTells, leave_eq, up2_at, up2_up2]
      · simp [f_X11_tell, m_has g1, hin, br_s, b2i0, bj, cl, nm_eq, g2, g3, hk, show nI 1 = (1 : Int32) from rfl, begins_eq, g4, up2_at, up2_up2]
    · refine key (trB (trB (trB (trB (M 0 10) 3) 2) 1) 1) 0 (nI (ld j) + 100 + nI (ld j)) ?_ (fun M' g1 g2 g3 g4 => ?_)
      · simp [f_X10_tell, c_has hL.n1, hin, br_s, bi_s, b2i0, bj, cl, nm_eq, hL.kC hj8, hL.lC hj8, hk, show ¬ nI 2 = (0 : Int32) by decide, show ¬ nI 2 = (1 : Int32) by decide, f_X10_lineTells, f_X10_arborTells, f_X10_winchTells, leave_eq, up2_at, up2_up2]
      · simp [f_X11_tell, m_has g1, hin, br_s, b2i0, bj, cl, nm_eq, g2, g3, hk, show ¬ nI 2 = (1 : Int32) by decide, show nI 2 = (2 : Int32) from rfl, begins_eq, g4, up2_at, up2_up2, tw_d (ld j) (by omega)]
theorem s_call : St_call Inv := by
  intro M h a1
  obtain ⟨n, kd, ld, br, ht, dr, hd, tr, hL, hS, h3, h4, h5, h6⟩ := id h
  have n8 := hL.n8
  cases hin : hb n a1 with
  | false => exact ⟨-1, M, M, by simp [f_X10_call, c_has hL.n1, hin, br_s, b2i0], by simp [f_X11_call, m_has hL.n2, hin, br_s, b2i0], h⟩
  | true =>
    obtain ⟨j, hj, rfl⟩ := hb_yes (by omega) hin
    have hj8 : j < 8 := by omega
    have bj : ib (nI j) 8 = true := ib_ok hj8 (by omega)
    have cl := nI_clamp (show j < 2 ^ 31 by omega)
    have hr := hL.rg hj8
    by_cases hk : kd j = 2
    · refine ⟨40, up2 M 0 10 (trB (M 0 10) 5), up2 (up2 M 0 10 (trB (M 0 10) 5)) 83 1 (trB (M 0 10) 5), ?_, ?_, h.trc (fun k j r1 r2 => by rw [up2_of r2, up2_of r1]) (by simp [up2_eq])⟩
      · simp [f_X10_call, c_has hL.n1, hin, br_s, b2i0, bj, cl, hL.kC hj8, hk, show nI 2 = (2 : Int32) from rfl, leave_eq]
      · have r1 : ∀ M' : MM, M' 83 5 = nI n → M' 87 j = nI (kd j) → M' 83 1 = M 0 10 → f_X11_call M' (nI j) = some (40, up2 M' 83 1 (trB (M 0 10) 5)) := by
          intro M' g1 g2 g4
          simp [f_X11_call, g_X11_call_26, m_has g1, hin, br_s, b2i0, bj, cl, g2, hk, show nI 2 = (2 : Int32) from rfl, begins_eq, g4, up2_eq (a := 87)]
        exact r1 _ (by simp [up2_eq, hL.n2]) (by simp [up2_eq, hL.kM hj8]) (by simp [up2_eq, hS.2.2])
    · have hn : ¬ nI (kd j) = (2 : Int32) := fun q => hk (nI_inj (b := 2) (by omega) (by omega) q)
      refine ⟨nI j, up2 M 0 10 (trB (M 0 10) 4), up2 (up2 M 0 10 (trB (M 0 10) 4)) 83 1 (trB (M 0 10) 4), ?_, ?_, h.trc (fun k j r1 r2 => by rw [up2_of r2, up2_of r1]) (by simp [up2_eq])⟩
      · simp [f_X10_call, c_has hL.n1, hin, br_s, b2i0, bj, cl, hL.kC hj8, hn, leave_eq]
      · have r1 : ∀ M' : MM, M' 83 5 = nI n → M' 87 j = nI (kd j) → M' 83 1 = M 0 10 → f_X11_call M' (nI j) = some (nI j, up2 M' 83 1 (trB (M 0 10) 4)) := by
          intro M' g1 g2 g4
          simp [f_X11_call, g_X11_call_26, m_has g1, hin, br_s, b2i0, bj, cl, g2, hn, begins_eq, g4, up2_eq (a := 87)]
        exact r1 _ (by simp [up2_eq, hL.n2]) (by simp [up2_eq, hL.kM hj8]) (by simp [up2_eq, hS.2.2])
theorem isD2_ne {x : Int32} (h : isD 2 x) : ¬ x = -9 := by
  obtain ⟨a, h1, rfl⟩ := h
  have : ∀ a, a < 3 → ¬ nI a = (-9 : Int32) := by decide +kernel
  exact this a (by omega)
theorem s_lose : St_lose Inv := by
  intro M h a1
  obtain ⟨n, kd, ld, br, ht, dr, hd, tr, hL, hS, h3, h4, h5, h6⟩ := id h
  cases hin : inR a1 0 3 with
  | false => exact ⟨-1, M, M, by simp [f_X10_lose, q_X10_isSheet, hin, br_s, b2i0], by simp [f_X11_lose, q_X11_isSheet, hin, br_s, b2i0], h⟩
  | true =>
    obtain ⟨k, k3, rfl⟩ := inR_yes0 (by omega) hin
    have bk : ib (nI k) 4 = true := ib_ok (by omega) (by omega)
    have cl := nI_clamp (show k < 2 ^ 31 by omega)
    obtain ⟨g1, g2, g3, g4, L, g5, g6, g7⟩ := h3 k (by omega)
    have hfin : Inv (up2 (up2 M (2 + 2 * k) 1 0) 84 k (-9)) := by
      refine h.chgSh (fun k' j r1 r2 => ?_) (hS.cong (fun k' j r => ?_)) (fun k' hk' => ?_)
      · unfold relSh at r2
        rw [up2_of (by omega), up2_of (by omega)]
      · unfold relMs at r
        rw [up2_of (by omega), up2_of (by omega)]
      · obtain ⟨f1, f2, f3, f4, L', f5, f6, f7⟩ := h3 k' hk'
        have e1 : ∀ j, j ≠ 1 → up2 (up2 M (2 + 2 * k) 1 0) 84 k (-9) (2 + 2 * k') j = M (2 + 2 * k') j := fun j hj => by rw [up2_of (by omega), up2_of (by omega)]
        have e2 : ∀ j, up2 (up2 M (2 + 2 * k) 1 0) 84 k (-9) (3 + 2 * k') j = M (3 + 2 * k') j := fun j => by rw [up2_of (by omega), up2_of (by omega)]
        have e3 : ∀ a j, a = 85 ∨ a = 86 → up2 (up2 M (2 + 2 * k) 1 0) 84 k (-9) a j = M a j := fun a j ha => by rw [up2_of (by omega), up2_of (by omega)]
        rw [e1 2 (by omega), e1 3 (by omega), e3 85 k' (by omega)]
        by_cases hkk : k' = k
        · subst hkk
          have a1 : up2 (up2 M (2 + 2 * k') 1 0) 84 k' (-9) (2 + 2 * k') 1 = 0 := by rw [up2_of (by omega), up2_at]
          rw [a1, up2_at]
          exact ⟨Or.inl rfl, by simp, fun q => absurd q (by decide), f4, L', f5, f6, fun i hi => by rw [e2, e3 86 _ (by omega)]; exact f7 i hi⟩
        · have a1 : up2 (up2 M (2 + 2 * k) 1 0) 84 k (-9) (2 + 2 * k') 1 = M (2 + 2 * k') 1 := by rw [up2_of (by omega), up2_of (by omega)]
          have a2 : up2 (up2 M (2 + 2 * k) 1 0) 84 k (-9) 84 k' = M 84 k' := by rw [up2_of (by omega), up2_of (by omega)]
          rw [a1, a2]
          exact ⟨f1, f2, f3, f4, L', f5, f6, fun i hi => by rw [e2, e3 86 _ (by omega)]; exact f7 i hi⟩
    rcases g1 with g1 | g1
    · rw [if_pos g1] at g2
      exact ⟨0, up2 M (2 + 2 * k) 1 0, up2 (up2 M (2 + 2 * k) 1 0) 84 k (-9), by simp [f_X10_lose, q_X10_isSheet, hin, br_s, b2i0, bk, cl, nm_eq, g1], by simp [f_X11_lose, g_X11_lose_25, q_X11_isSheet, hin, br_s, b2i0, bk, cl, nm_eq, up2_of (show ¬ (84 = 2 + 2 * k ∧ k = 1) by omega), g2], hfin⟩
    · have hne : ¬ M (2 + 2 * k) 1 = 0 := by rw [g1]; decide
      rw [if_neg hne] at g2
      have h9 : ¬ M 84 k = -9 := by rw [g2]; exact isD2_ne (g3 g1)
      exact ⟨1, up2 M (2 + 2 * k) 1 0, up2 (up2 M (2 + 2 * k) 1 0) 84 k (-9), by simp [f_X10_lose, q_X10_isSheet, hin, br_s, b2i0, bk, cl, nm_eq, g1], by simp [f_X11_lose, g_X11_lose_25, q_X11_isSheet, hin, br_s, b2i0, bk, cl, nm_eq, up2_of (show ¬ (84 = 2 + 2 * k ∧ k = 1) by omega), h9], hfin⟩
