theorem fl10 (M : MM) (f : Int32) : f_X10_faulted M f = some ((-10 : Int32) - f, up2 M 0 11 f) := rfl
theorem fl11 (M : MM) (f : Int32) : f_X11_fails M f = some ((-10 : Int32) - f, up2 M 83 0 f) := rfl
theorem lo11 (M : MM) (f : Int32) : f_X11_lost M f = some ((-9223372036854775808 : Int64), up2 M 83 0 f) := rfl
def cvS (lane v : Int32) : Int32 := if lane = 0 then ib8 v else if lane = 1 then ib16 v else v
theorem c_set (M : MM) {k0 j : Nat} (hj : j < 60) (v : Int32) : f_X7_set M k0 (nI j) v = some (up2 M (k0 + 1) j (cvS (M k0 2) v)) := by
  unfold f_X7_set cvS
  simp only [if_pos (ib_ok hj (by omega)), nI_clamp (show j < 2 ^ 31 by omega), nm_eq]
  split
  · rfl
  · split <;> rfl
theorem s_put : St_put Inv := by
  intro M h a1 a2 a3
  obtain ⟨n, kd, ld, br, ht, dr, hd, tr, hL, hS, h3, h4, h5, h6⟩ := id h
  cases hin : inR a1 0 3 with
  | false => exact ⟨-1, up2 M 0 11 0, up2 (up2 M 0 11 0) 83 0 0, by simp [f_X10_put, nm_eq, q_X10_isSheet, hin, br_s, b2i0], by simp [f_X11_put, nm_eq, q_X11_isSheet, hin, br_s, b2i0], h.flt1 0⟩
  | true =>
    obtain ⟨k, k3, rfl⟩ := inR_yes0 (by omega) hin
    have bk : ib (nI k) 4 = true := ib_ok (by omega) (by omega)
    have cl := nI_clamp (show k < 2 ^ 31 by omega)
    obtain ⟨g1, g2, g3, g4, L, g5, g6, g7⟩ := h3 k (by omega)
    have r0 : ∀ j, up2 M 0 11 0 (2 + 2 * k) j = M (2 + 2 * k) j := fun j => up2_of (by omega)
    have ef := c_fault (M := up2 M 0 11 0) (k0 := 2 + 2 * k) (L := L) (by rw [r0]; exact g6) (M (2 + 2 * k) 2) a2 1
    rw [r0, r0] at ef
    have m84 : ∀ M' : MM, (∀ a j, 83 < a → M' a j = M a j) → M' 84 k = M 84 k ∧ M' 85 k = nI L := fun M' q => ⟨q 84 k (by omega), by rw [q 85 k (by omega), g4, g6]⟩
    rcases g1 with g1 | g1
    · have e0 : foS (M (2 + 2 * k) 1) (M (2 + 2 * k) 2) L (M (2 + 2 * k) 2) a2 1 = 1 := by unfold foS; rw [if_pos g1]
      rw [e0] at ef
      rw [if_pos g1] at g2
      exact ⟨-11, up2 (up2 M 0 11 0) 0 11 1, up2 (up2 (up2 (up2 M 0 11 0) 0 11 1) 83 0 0) 83 0 1, by simp [f_X10_put, nm_eq, q_X10_isSheet, hin, br_s, bi_s, b2i0, bk, cl, r0, ef, fl10], by simp [f_X11_put, nm_eq, q_X11_isSheet, hin, br_s, bi_s, b2i0, bk, cl, up2_eq (a := 84), g2, fl11], h.flt 0 0 1 1 rfl⟩
    · have hne : ¬ M (2 + 2 * k) 1 = 0 := by rw [g1]; decide
      rw [if_neg hne] at g2
      have hD := g3 g1
      have h9 : ¬ M (2 + 2 * k) 2 = -9 := isD2_ne hD
      rcases one_d g5 a2 with ⟨j, hj, rfl, q1, q2, q3, q4⟩ | ⟨q1, q2⟩
      · have e0 : foS (M (2 + 2 * k) 1) (M (2 + 2 * k) 2) L (M (2 + 2 * k) 2) (nI j) 1 = 0 := by
          unfold foS
          rw [if_neg hne, if_pos rfl, if_pos (by decide), if_neg q1, if_neg q2, if_neg q3]
        rw [e0] at ef
        have es := c_set (up2 M 0 11 0) (k0 := 2 + 2 * k) (j := j) (by omega) a3
        rw [r0] at es
        generalize ev : cvS (M (2 + 2 * k) 2) a3 = v at es
        have bi : ib (nI (60 * k + j)) 240 = true := ib_ok (by omega) (by omega)
        have ei : (60 : Int32) * nI k + nI j = nI (60 * k + j) := by rw [show (60 : Int32) * nI k = nI (60 * k) from pk_mul 60 k, nI_add]
        have ci := nI_clamp (show 60 * k + j < 2 ^ 31 by omega)
        refine ⟨1, up2 (up2 M 0 11 0) (2 + 2 * k + 1) j v, up2 (up2 (up2 (up2 M 0 11 0) (2 + 2 * k + 1) j v) 83 0 0) 86 (60 * k + j) v, ?_, ?_, ?_⟩
        · simp [f_X10_put, nm_eq, q_X10_isSheet, hin, br_s, bi_s, b2i0, bk, cl, r0, ef, es]
        · have key : ∀ M' : MM, M' 84 k = M (2 + 2 * k) 2 → M' 85 k = nI L → f_X11_put M' (nI k) (nI j) a3 = some (1, up2 (up2 M' 83 0 0) 86 (60 * k + j) v) := by
            intro M' y1 y2
            have y3 : up2 M' 83 0 0 84 k = M (2 + 2 * k) 2 := by rw [up2_of (by omega), y1]
            have y4 : up2 M' 83 0 0 85 k = nI L := by rw [up2_of (by omega), y2]
            unfold f_X11_put
            simp only [nm_eq, q_X11_isSheet, hin, br_s, b2i0, Bool.true_eq_false, if_false, if_pos bk, cl, y3, y4, if_neg h9, w_within11, if_pos q4, show ¬ ((1 : Int32) = 0) by decide, ei, if_pos bi, ci, ← ev]
            unfold cvS
            split
            · rfl
            · split <;> rfl
          exact key _ (by rw [up2_of (by omega), up2_of (by omega), g2]) (by rw [up2_of (by omega), up2_of (by omega), g4, g6])
        · have au : ∀ a b, ¬ (a = 0 ∧ b = 11) → ¬ (a = 2 + 2 * k + 1 ∧ b = j) → ¬ (a = 83 ∧ b = 0) → ¬ (a = 86 ∧ b = 60 * k + j) → up2 (up2 (up2 (up2 M 0 11 0) (2 + 2 * k + 1) j v) 83 0 0) 86 (60 * k + j) v a b = M a b := fun a b s1 s2 s3 s4 => by rw [up2_of s4, up2_of s3, up2_of s2, up2_of s1]
          refine h.chgSh (fun a b s1 s2 => au a b (by unfold relMs at s1; omega) (by unfold relSh at s2; omega) (by unfold relMs at s1; omega) (by unfold relSh at s2; omega)) ⟨?_, ?_, ?_⟩ (fun k' hk' => ?_)
          · rw [au 23 3 (by omega) (by omega) (by omega) (by omega), au 83 8 (by omega) (by omega) (by omega) (by omega)]; exact hS.1
          · rw [up2_of (by omega), up2_of (by omega), up2_of (by omega), up2_at, up2_of (by omega), up2_at]
          · rw [au 0 10 (by omega) (by omega) (by omega) (by omega), au 83 1 (by omega) (by omega) (by omega) (by omega)]; exact hS.2.2
          · obtain ⟨f1, f2, f3, f4, L', f5, f6, f7⟩ := h3 k' hk'
            rw [au (2 + 2 * k') 1 (by omega) (by omega) (by omega) (by omega), au (2 + 2 * k') 2 (by omega) (by omega) (by omega) (by omega), au (2 + 2 * k') 3 (by omega) (by omega) (by omega) (by omega), au 84 k' (by omega) (by omega) (by omega) (by omega), au 85 k' (by omega) (by omega) (by omega) (by omega)]
            refine ⟨f1, f2, f3, f4, L', f5, f6, fun i hi => ?_⟩
            by_cases hk : k' = k
            · subst hk
              by_cases hij : i = j
              · subst hij
                rw [up2_of (by omega), up2_of (by omega), show 3 + 2 * k' = 2 + 2 * k' + 1 by omega, up2_at, up2_at]
              · rw [au _ _ (by omega) (by omega) (by omega) (by omega), au _ _ (by omega) (by omega) (by omega) (by omega)]
                exact f7 i hi
            · rw [au _ _ (by omega) (by omega) (by omega) (by omega), au _ _ (by omega) (by omega) (by omega) (by omega)]
              exact f7 i hi
      · have e0 : foS (M (2 + 2 * k) 1) (M (2 + 2 * k) 2) L (M (2 + 2 * k) 2) a2 1 = 3 := by
          unfold foS
          rw [if_neg hne, if_pos rfl, if_pos (by decide)]
          by_cases z1 : a2 < 0
          · rw [if_pos z1]
          · by_cases z2 : nI L < a2
            · rw [if_neg z1, if_pos z2]
            · have z3 : nI L - a2 < 1 := by
                rcases q1 with z | z | z
                · exact absurd z z1
                · exact absurd z z2
                · exact z
              rw [if_neg z1, if_neg z2, if_pos z3]
        rw [e0] at ef
        refine ⟨-13, up2 (up2 M 0 11 0) 0 11 3, up2 (up2 (up2 (up2 M 0 11 0) 0 11 3) 83 0 0) 83 0 3, by simp [f_X10_put, nm_eq, q_X10_isSheet, hin, br_s, bi_s, b2i0, bk, cl, r0, ef, fl10], ?_, h.flt 0 0 3 3 rfl⟩
        have key : ∀ M' : MM, M' 84 k = M (2 + 2 * k) 2 → M' 85 k = nI L → f_X11_put M' (nI k) a2 a3 = some (-13, up2 (up2 M' 83 0 0) 83 0 3) := by
          intro M' y1 y2
          have y3 : up2 M' 83 0 0 84 k = M (2 + 2 * k) 2 := by rw [up2_of (by omega), y1]
          have y4 : up2 M' 83 0 0 85 k = nI L := by rw [up2_of (by omega), y2]
          unfold f_X11_put
          simp only [nm_eq, q_X11_isSheet, hin, br_s, b2i0, Bool.true_eq_false, if_false, if_pos bk, cl, y3, y4, if_neg h9, w_within11, if_neg q2, if_true, fl11, bi_s]
          rfl
        exact key _ (by rw [up2_of (by omega), up2_of (by omega), g2]) (by rw [up2_of (by omega), up2_of (by omega), g4, g6])
