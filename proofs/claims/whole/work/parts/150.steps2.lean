theorem s_ofBatten : St_ofBatten Inv := by
  intro M h a1 a2
  obtain ⟨n, kd, ld, br, ht, dr, hd, tr, hL, hS, h3, h4, h5, h6⟩ := id h
  have n8 := hL.n8
  cases hin : hb n a1 with
  | false => exact ⟨-1, by simp [f_X10_ofBatten, c_has hL.n1, hin, br_s, b2i0], by simp [f_X11_ofBatten, m_has hL.n2, hin, br_s, b2i0], h⟩
  | true =>
    obtain ⟨j, hj, rfl⟩ := hb_yes (by omega) hin
    have hj8 : j < 8 := by omega
    have bj : ib (nI j) 8 = true := ib_ok hj8 (by omega)
    have hr := hL.rg hj8
    have e : f_X10_ofBatten M (nI j) a2 = f_X11_ofBatten M (nI j) a2 := by
      unfold f_X10_ofBatten f_X11_ofBatten
      simp only [c_has hL.n1, m_has hL.n2, hin, br_s, b2i0, if_pos bj, nI_clamp (show j < 2 ^ 31 by omega), hL.kC hj8, hL.kM hj8, hL.lC hj8, hL.lM hj8, hL.bC hj8, hL.bM hj8, hL.hC hj8, hL.hM hj8, hL.dC hj8, hL.dM hj8, c_pull hL.1 hL.2.2.1 hj8, m_pull hL.2.1 hL.2.2.1 hj8, c_edge hL.1 hL.2.2.1 hj8 hr.2.2.2.1, m_edge hL.2.1 hL.2.2.1 hj8]
    have ex : ∃ r, f_X10_ofBatten M (nI j) a2 = some r := by
      unfold f_X10_ofBatten
      simp only [c_has hL.n1, hin, br_s, b2i0, if_pos bj, nI_clamp (show j < 2 ^ 31 by omega), hL.hC hj8, c_pull hL.1 hL.2.2.1 hj8, c_edge hL.1 hL.2.2.1 hj8 hr.2.2.2.1]
      repeat' split
      all_goals exact ⟨_, rfl⟩
    obtain ⟨r, hr⟩ := ex
    exact ⟨r, hr, e ▸ hr, h⟩
theorem w10n (M : MM) (v : Int32) (c : Nat) : f_X10_within M v (0 : Int32) (nI c) = some (b2i (inR v 0 c)) := w10 M v 0 c
theorem w11n (M : MM) (v : Int32) (c : Nat) : f_X11_within M v (0 : Int32) (nI c) = some (b2i (inR v 0 c)) := w11 M v 0 c
theorem s_back : St_back Inv := by
  intro M h a1
  obtain ⟨n, kd, ld, br, ht, dr, hd, tr, hL, hS, h3, h4, h5, ⟨c, c1, c2, c3, c4⟩⟩ := id h
  cases hin : inR a1 0 c with
  | false => exact ⟨-2, M, M, by simp [f_X10_back, c2, w10n, hin, br_s, b2i0], by simp [f_X11_back, c3, w11n, hin, br_s, b2i0], h⟩
  | true =>
    obtain ⟨k, k1, rfl⟩ := inR_yes0 (by omega) hin
    have e : nI c - nI k = nI (c - k) := pk_sub k1
    refine ⟨nI (c - k), up2 M 61 3 (nI (c - k)), up2 (up2 M 61 3 (nI (c - k))) 83 35 (nI (c - k)), by simp [f_X10_back, c2, w10n, hin, br_s, b2i0, nm_eq, e, up2_eq], by simp [f_X11_back, up2_eq M, c3, w11n, hin, br_s, b2i0, nm_eq, e, up2_at], ?_⟩
    refine h.chgRd (fun k' j r => ?_) (fun n' _ _ hr => ?_)
    · unfold relRd at r
      rw [up2_of (by omega), up2_of (by omega)]
    · obtain ⟨c', d1, d2, d3, d4⟩ := hr
      have hcc : c' = c := nI_inj (by omega) (by omega) (d2.symm.trans c2)
      subst hcc
      refine ⟨c' - k, by omega, by simp [up2_eq], by simp [up2_eq], fun i hi => ?_⟩
      rw [up2_of (by omega), up2_of (by omega), up2_of (by omega), up2_of (by omega), up2_of (by omega), up2_of (by omega), up2_of (by omega), up2_of (by omega), up2_of (by omega), up2_of (by omega), up2_of (by omega), up2_of (by omega)]
      exact d4 i (by omega)
theorem s_reading : St_reading Inv := by
  intro M h a1 a2 a3
  obtain ⟨n, kd, ld, br, ht, dr, hd, tr, hL, hS, h3, h4, h5, ⟨c, c1, c2, c3, c4⟩⟩ := id h
  have n8 := hL.n8
  cases hin : hb n a1 with
  | false => exact ⟨-1, M, M, by simp [f_X10_reading, c_has hL.n1, hin, br_s, b2i0], by simp [f_X11_reading, m_has hL.n2, hin, br_s, b2i0], h⟩
  | true =>
    obtain ⟨b, hb1, rfl⟩ := hb_yes (by omega) hin
    cases h2 : inR a2 1 9 with
    | false => exact ⟨-2, M, M, by simp [f_X10_reading, c_has hL.n1, hin, br_s, b2i0, w10_1_9, h2], by simp [f_X11_reading, m_has hL.n2, hin, br_s, b2i0, w11_1_9, h2], h⟩
    | true =>
      cases h81 : inR a3 0 81 with
      | false => exact ⟨-2, M, M, by simp [f_X10_reading, c_has hL.n1, hin, br_s, b2i0, w10_1_9, h2, w10_0_81, h81], by simp [f_X11_reading, m_has hL.n2, hin, br_s, b2i0, w11_1_9, h2, w11_0_81, h81], h⟩
      | true =>
        by_cases c8 : c = 8
        · subst c8
          exact ⟨-4, M, M, by simp [f_X10_reading, c_has hL.n1, hin, br_s, b2i0, w10_1_9, h2, w10_0_81, h81, c2, show ¬ nI 8 < (8 : Int32) by decide], by simp [f_X11_reading, m_has hL.n2, hin, br_s, b2i0, w11_1_9, h2, w11_0_81, h81, c3, show nI 8 = (8 : Int32) from rfl], h⟩
        · have q1 : nI c < (8 : Int32) := nI_lt (b := 8) (by omega) (by omega)
          have q2 : ¬ (8 : Int32) ≤ nI c := Int32.not_le.mpr q1
          have q3 : ¬ nI c = (8 : Int32) := fun q => by have := nI_inj (b := 8) (by omega) (by omega) q; omega
          have bc : ib (nI c) 8 = true := ib_ok (by omega) (by omega)
          have e1 : nI c + (1 : Int32) = nI (c + 1) := nI_1 c
          have e2 : nI (c + 1) - (1 : Int32) = nI c := nI_pred c
          have cl := nI_clamp (show c < 2 ^ 31 by omega)
          refine ⟨nI c, up2 (up2 (up2 (up2 M 62 c (nI b)) 63 c a2) 64 c a3) 61 3 (nI (c + 1)), up2 (up2 (up2 (up2 (up2 (up2 (up2 (up2 M 62 c (nI b)) 63 c a2) 64 c a3) 61 3 (nI (c + 1))) 103 c (nI b)) 104 c a2) 105 c a3) 83 35 (nI (c + 1)), ?_, ?_, ?_⟩
          · simp [f_X10_reading, f_X5_add, c_has hL.n1, hin, br_s, b2i0, w10_1_9, h2, w10_0_81, h81, c2, q1, q2, nm_eq, bc, up2_eq (k := 62) (M := M) (a := 61), up2_eq (k := 63) (a := 61), up2_eq (k := 64) (a := 61), cl, e1]
          · have r1 : ∀ M' : MM, M' 83 5 = nI n → M' 83 35 = nI c → f_X11_reading M' (nI b) a2 a3 = some (nI c, up2 (up2 (up2 (up2 M' 103 c (nI b)) 104 c a2) 105 c a3) 83 35 (nI (c + 1))) := by
              intro M' g1 g2
              simp [f_X11_reading, m_has g1, hin, br_s, b2i0, w11_1_9, h2, w11_0_81, h81, g2, q3, nm_eq, bc, up2_eq (k := 103) (a := 83), up2_eq (k := 104) (a := 83), up2_eq (k := 105) (a := 83), cl, e1, up2_at, e2]
            exact r1 _ (by simp [up2_eq, hL.n2]) (by simp [up2_eq, c3])
          · refine h.chgRd (fun k' j r => ?_) (fun n' n1 n2 hr => ?_)
            · unfold relRd at r
              rw [up2_of (by omega), up2_of (by omega), up2_of (by omega), up2_of (by omega), up2_of (by omega), up2_of (by omega), up2_of (by omega), up2_of (by omega)]
            · have hnn : n' = n := nI_inj (by omega) (by omega) (n2.symm.trans hL.n1)
              subst hnn
              refine ⟨c + 1, by omega, by simp [up2_eq], by simp [up2_eq], fun i hi => ?_⟩
              by_cases hic : i = c
              · subst hic
                refine ⟨by simp [up2_eq], ⟨b, hb1, by simp [up2_eq]⟩, by simp [up2_eq], by simp [up2_eq]⟩
              · obtain ⟨x1, x2, x3, x4⟩ := c4 i (by omega)
                refine ⟨by simp [up2_eq, hic, x1], ?_, by simp [up2_eq, hic, x3], by simp [up2_eq, hic, x4]⟩
                obtain ⟨b', y1, y2⟩ := x2
                exact ⟨b', y1, by simp [up2_eq, hic, y2]⟩
