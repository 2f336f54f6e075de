theorem s_cell : St_cell Inv := by
  intro M h a1 a2 a3
  obtain ⟨n, kd, ld, br, ht, dr, hd, tr, hL, hS, h3, h4, h5, h6⟩ := id h
  cases hin : inR a1 0 3 with
  | false => exact ⟨-9223372036854775808, up2 M 0 11 0, up2 (up2 M 0 11 0) 83 0 0, by simp [f_X10_cell, nm_eq, q_X10_isSheet, hin, br_s, b2i0], by simp [f_X11_cell, nm_eq, q_X11_isSheet, hin, br_s, b2i0], h.flt1 0⟩
  | true =>
    cases hln : inR a3 0 2 with
    | false => exact ⟨-9223372036854775808, up2 M 0 11 0, up2 (up2 M 0 11 0) 83 0 0, by simp [f_X10_cell, nm_eq, q_X10_isSheet, q_X10_isLane, hin, hln, br_s, b2i0], by simp [f_X11_cell, nm_eq, q_X11_isSheet, q_X11_isSort, hin, hln, br_s, b2i0], h.flt1 0⟩
    | true =>
      obtain ⟨k, k3, rfl⟩ := inR_yes0 (by omega) hin
      have bk : ib (nI k) 4 = true := ib_ok (by omega) (by omega)
      have cl := nI_clamp (show k < 2 ^ 31 by omega)
      obtain ⟨g1, g2, g3, g4, L, g5, g6, g7⟩ := h3 k (by omega)
      have r0 : ∀ j, up2 M 0 11 0 (2 + 2 * k) j = M (2 + 2 * k) j := fun j => up2_of (by omega)
      have ef := c_fault (M := up2 M 0 11 0) (k0 := 2 + 2 * k) (L := L) (by rw [r0]; exact g6) a3 a2 1
      rw [r0, r0] at ef
      -- a fault f on both sides
      have bad : ∀ f : Int32, ¬ f = 0 → foS (M (2 + 2 * k) 1) (M (2 + 2 * k) 2) L a3 a2 1 = f → (∀ M' : MM, M' 84 k = M 84 k → M' 85 k = nI L → f_X11_cell M' (nI k) a2 a3 = some (-9223372036854775808, up2 (up2 M' 83 0 0) 83 0 f)) → ∃ r : Int64, ∃ M1 : MM, ∃ M2 : MM, f_X10_cell M (nI k) a2 a3 = some (r, M1) ∧ f_X11_cell M1 (nI k) a2 a3 = some (r, M2) ∧ Inv M2 := by
        intro f hf e0 key
        rw [e0] at ef
        exact ⟨-9223372036854775808, up2 (up2 M 0 11 0) 0 11 f, up2 (up2 (up2 (up2 M 0 11 0) 0 11 f) 83 0 0) 83 0 f, by simp [f_X10_cell, nm_eq, q_X10_isSheet, q_X10_isLane, hin, hln, br_s, bi_s, b2i0, bk, cl, ef, hf], key _ (by rw [up2_of (by omega), up2_of (by omega)]) (by rw [up2_of (by omega), up2_of (by omega), g4, g6]), h.flt 0 0 f f rfl⟩
      have y84 : ∀ M' : MM, M' 84 k = M 84 k → up2 M' 83 0 0 84 k = M 84 k := fun M' y => by rw [up2_of (by omega), y]
      have y85 : ∀ M' : MM, M' 85 k = nI L → up2 M' 83 0 0 85 k = nI L := fun M' y => by rw [up2_of (by omega), y]
      rcases g1 with g1 | g1
      · rw [if_pos g1] at g2
        refine bad 1 (by decide) (by unfold foS; rw [if_pos g1]) (fun M' y1 y2 => ?_)
        simp [f_X11_cell, g_X11_cell_50, nm_eq, q_X11_isSheet, q_X11_isSort, hin, hln, br_s, bl_s, b2i0, bk, cl, y84 M' y1, g2, lo11]
      · have hne : ¬ M (2 + 2 * k) 1 = 0 := by rw [g1]; decide
        rw [if_neg hne] at g2
        have h9 : ¬ M (2 + 2 * k) 2 = -9 := isD2_ne (g3 g1)
        by_cases hl : M (2 + 2 * k) 2 = a3
        · rcases one_d g5 a2 with ⟨j, hj, rfl, q1, q2, q3, q4⟩ | ⟨q1, q2⟩
          · have e0 : foS (M (2 + 2 * k) 1) (M (2 + 2 * k) 2) L a3 (nI j) 1 = 0 := by
              unfold foS
              rw [if_neg hne, if_pos hl, if_pos (by decide), if_neg q1, if_neg q2, if_neg q3]
            rw [e0] at ef
            have bj : ib (nI j) 60 = true := ib_ok (by omega) (by omega)
            have cj := nI_clamp (show j < 2 ^ 31 by omega)
            have bi : ib (nI (60 * k + j)) 240 = true := ib_ok (by omega) (by omega)
            have ei : (60 : Int32) * nI k + nI j = nI (60 * k + j) := by rw [show (60 : Int32) * nI k = nI (60 * k) from pk_mul 60 k, nI_add]
            have ci := nI_clamp (show 60 * k + j < 2 ^ 31 by omega)
            refine ⟨(M (3 + 2 * k) j).toInt64, up2 M 0 11 0, up2 (up2 M 0 11 0) 83 0 0, ?_, ?_, h.flt1 0⟩
            · simp [f_X10_cell, nm_eq, q_X10_isSheet, q_X10_isLane, hin, hln, br_s, bi_s, b2i0, bk, cl, ef, bj, cj, show up2 M 0 11 0 (2 + 2 * k + 1) j = M (3 + 2 * k) j from by rw [up2_of (by omega), show 2 + 2 * k + 1 = 3 + 2 * k by omega]]
            · have key : ∀ M' : MM, M' 84 k = M 84 k → M' 85 k = nI L → M' 86 (60 * k + j) = M 86 (60 * k + j) → f_X11_cell M' (nI k) (nI j) a3 = some ((M (3 + 2 * k) j).toInt64, up2 M' 83 0 0) := by
                intro M' y1 y2 y3
                have h9' : ¬ a3 = -9 := hl ▸ h9
                have y4 : up2 M' 83 0 0 86 (60 * k + j) = M (3 + 2 * k) j := by rw [up2_of (by omega), y3, g7 j hj]
                unfold f_X11_cell g_X11_cell_50
                simp only [nm_eq, q_X11_isSheet, q_X11_isSort, hin, hln, br_s, b2i0, Bool.true_eq_false, if_false, if_pos bk, cl, y84 M' y1, y85 M' y2, g2, hl, if_neg h9', if_true, w_within11, if_pos q4, show ¬ ((1 : Int32) = 0) by decide, ei, if_pos bi, ci, y4]
              exact key _ (up2_of (by omega)) (by rw [up2_of (by omega), g4, g6]) (up2_of (by omega))
          · refine bad 3 (by decide) ?_ (fun M' y1 y2 => ?_)
            · unfold foS
              rw [if_neg hne, if_pos hl, if_pos (by decide)]
              by_cases z1 : a2 < 0
              · rw [if_pos z1]
              · by_cases z2 : nI L < a2
                · rw [if_neg z1, if_pos z2]
                · have z3 : nI L - a2 < 1 := by
                    rcases q1 with z | z | z
                    · exact absurd z z1
                    · exact absurd z z2
                    · exact z
                  rw [if_neg z1, if_neg z2, if_pos z3]
            · have h9' : ¬ a3 = -9 := hl ▸ h9
              unfold f_X11_cell g_X11_cell_50
              simp only [nm_eq, q_X11_isSheet, q_X11_isSort, hin, hln, br_s, b2i0, Bool.true_eq_false, if_false, if_pos bk, cl, y84 M' y1, y85 M' y2, g2, hl, if_neg h9', if_true, w_within11, if_neg q2, lo11, bl_s]
        · refine bad 2 (by decide) (by unfold foS; rw [if_neg hne, if_neg hl]) (fun M' y1 y2 => ?_)
          unfold f_X11_cell g_X11_cell_50
          simp only [nm_eq, q_X11_isSheet, q_X11_isSort, hin, hln, br_s, b2i0, Bool.true_eq_false, if_false, if_pos bk, cl, y84 M' y1, y85 M' y2, g2, if_neg h9, if_neg hl, lo11, bl_s]
theorem rn_loop {k0 L : Nat} (hL : L ≤ 60) : ∀ (d i fuel : Nat) (M : MM), i + d = L → d < fuel → ∃ M' : MM, g_X7_renew_17 k0 fuel M (nI L) (nI i) = some M' ∧ (∀ a, i ≤ a → a < L → M' (k0 + 1) a = 0) ∧ ∀ k a, ¬ (k = k0 + 1 ∧ i ≤ a ∧ a < L) → M' k a = M k a := by
  intro d
  induction d with
  | zero =>
    intro i fuel M h1 h2
    obtain ⟨f, rfl⟩ : ∃ f, fuel = f + 1 := ⟨fuel - 1, by omega⟩
    obtain rfl : i = L := by omega
    rw [g_X7_renew_17, if_pos (nI_le (Nat.le_refl i) (by omega))]
    exact ⟨M, rfl, fun a g1 g2 => by omega, fun k a _ => rfl⟩
  | succ d ih =>
    intro i fuel M h1 h2
    obtain ⟨f, rfl⟩ : ∃ f, fuel = f + 1 := ⟨fuel - 1, by omega⟩
    rw [g_X7_renew_17, if_neg (nI_ge (by omega) (by omega)), if_pos (ib_ok (by omega) (by omega)), nI_clamp (by omega), show nI i + (1 : Int32) = nI (i + 1) from nI_1 i]
    simp only [nm_eq]
    obtain ⟨M', g0, g1, g2⟩ := ih (i + 1) f (up2 M (k0 + 1) i 0) (by omega) (by omega)
    refine ⟨M', g0, fun a a1 a2 => ?_, fun k a r => ?_⟩
    · by_cases ha : a = i
      · subst ha
        rw [g2 (k0 + 1) a (by omega), up2_at]
      · exact g1 a (by omega) a2
    · rw [g2 k a (by omega), up2_of (by omega)]
theorem sz_loop {k : Nat} (hk : k < 4) : ∀ (d i fuel : Nat) (M : MM), i + d = 60 → d < fuel → ∃ M' : MM, g_X11_sheet_57 fuel M (nI k) (nI i) = some (1, M') ∧ (∀ a, i ≤ a → a < 60 → M' 86 (60 * k + a) = 0) ∧ ∀ b a, ¬ (b = 86 ∧ 60 * k + i ≤ a ∧ a < 60 * k + 60) → M' b a = M b a := by
  intro d
  induction d with
  | zero =>
    intro i fuel M h1 h2
    obtain ⟨f, rfl⟩ : ∃ f, fuel = f + 1 := ⟨fuel - 1, by omega⟩
    obtain rfl : i = 60 := by omega
    rw [g_X11_sheet_57, if_pos (show (60 : Int32) ≤ nI 60 by decide)]
    exact ⟨M, rfl, fun a g1 g2 => by omega, fun b a _ => rfl⟩
  | succ d ih =>
    intro i fuel M h1 h2
    obtain ⟨f, rfl⟩ : ∃ f, fuel = f + 1 := ⟨fuel - 1, by omega⟩
    have ei : (60 : Int32) * nI k + nI i = nI (60 * k + i) := by rw [show (60 : Int32) * nI k = nI (60 * k) from pk_mul 60 k, nI_add]
    rw [g_X11_sheet_57, if_neg (show ¬ (60 : Int32) ≤ nI i from nI_ge (b := 60) (by omega) (by omega)), ei, if_pos (ib_ok (by omega) (by omega)), nI_clamp (by omega), show nI i + (1 : Int32) = nI (i + 1) from nI_1 i]
    simp only [nm_eq]
    obtain ⟨M', g0, g1, g2⟩ := ih (i + 1) f (up2 M 86 (60 * k + i) 0) (by omega) (by omega)
    refine ⟨M', g0, fun a a1 a2 => ?_, fun b a r => ?_⟩
    · by_cases ha : a = i
      · subst ha
        rw [g2 86 _ (by omega), up2_at]
      · exact g1 a (by omega) a2
    · rw [g2 b a (by omega), up2_of (by omega)]
theorem s_sheet : St_sheet Inv := by
  intro M h a1 a2 a3
  obtain ⟨n, kd, ld, br, ht, dr, hd, tr, hL, hS, h3, h4, h5, h6⟩ := id h
  cases hin : inR a1 0 3 with
  | false => exact ⟨-1, up2 M 0 11 0, up2 (up2 M 0 11 0) 83 0 0, by simp [f_X10_sheet, nm_eq, q_X10_isSheet, hin, br_s, b2i0], by simp [f_X11_sheet, nm_eq, q_X11_isSheet, hin, br_s, b2i0], h.flt1 0⟩
  | true =>
    cases hln : inR a2 0 2 with
    | false => exact ⟨-2, up2 M 0 11 0, up2 (up2 M 0 11 0) 83 0 0, by simp [f_X10_sheet, nm_eq, q_X10_isSheet, q_X10_isLane, hin, hln, br_s, b2i0], by simp [f_X11_sheet, nm_eq, q_X11_isSheet, q_X11_isSort, hin, hln, br_s, b2i0], h.flt1 0⟩
    | true =>
      obtain ⟨k, k3, rfl⟩ := inR_yes0 (by omega) hin
      have bk : ib (nI k) 4 = true := ib_ok (by omega) (by omega)
      have cl := nI_clamp (show k < 2 ^ 31 by omega)
      by_cases q60 : a3 ≤ (60 : Int32)
      · by_cases q0 : 0 ≤ a3
        · obtain ⟨L, hL60, rfl⟩ := (isD_iff (m := 60) (by omega)).mpr ⟨q0, q60⟩
          obtain ⟨lane, hl2, rfl⟩ := inR_yes0 (by omega) hln
          obtain ⟨M8, e8, r1, r2⟩ := rn_loop (k0 := 2 + 2 * k) hL60 L 0 FU (up2 (up2 (up2 (up2 M 0 11 0) (2 + 2 * k) 1 1) (2 + 2 * k) 2 (nI lane)) (2 + 2 * k) 3 (nI L)) (by omega) (by have : FU = 7000 := rfl; omega)
          have e1 : f_X10_sheet M (nI k) (nI lane) (nI L) = some (1, M8) := by
            unfold f_X10_sheet f_X7_renew
            simp only [nm_eq, q_X10_isSheet, q_X10_isLane, hin, hln, br_s, b2i0, Bool.true_eq_false, if_false, if_pos q60, if_pos q0, if_pos bk, cl]
            rw [show (0 : Int32) = nI 0 from rfl] at e8 ⊢
            rw [e8]
            rfl
          obtain ⟨M2, e2', s1, s2⟩ := sz_loop (k := k) (by omega) 60 0 FU (up2 (up2 (up2 M8 83 0 0) 84 k (nI lane)) 85 k (nI L)) (by omega) (by decide)
          have e2 : f_X11_sheet M8 (nI k) (nI lane) (nI L) = some (1, M2) := by
            unfold f_X11_sheet
            simp only [nm_eq, q_X11_isSheet, q_X11_isSort, hin, hln, br_s, b2i0, Bool.true_eq_false, if_false, if_pos q60, if_pos q0, if_pos bk, cl]
            exact e2'
          refine ⟨1, M8, M2, e1, e2, ?_⟩
          have u8 : ∀ a b, ¬ (a = 2 + 2 * k + 1 ∧ b < L) → ¬ (a = 0 ∧ b = 11) → ¬ (a = 2 + 2 * k ∧ (b = 1 ∨ b = 2 ∨ b = 3)) → M8 a b = M a b := fun a b c1 c2 c3 => by rw [r2 a b (by omega), up2_of (by omega), up2_of (by omega), up2_of (by omega), up2_of (by omega)]
          have u2 : ∀ a b, ¬ (a = 86 ∧ 60 * k ≤ b ∧ b < 60 * k + 60) → ¬ (a = 83 ∧ b = 0) → ¬ (a = 84 ∧ b = k) → ¬ (a = 85 ∧ b = k) → M2 a b = M8 a b := fun a b c1 c2 c3 c4 => by rw [s2 a b (by omega), up2_of c4, up2_of c3, up2_of c2]
          have au : ∀ a b, ¬ (a = 86 ∧ 60 * k ≤ b ∧ b < 60 * k + 60) → ¬ (a = 83 ∧ b = 0) → ¬ (a = 84 ∧ b = k) → ¬ (a = 85 ∧ b = k) → ¬ (a = 2 + 2 * k + 1 ∧ b < L) → ¬ (a = 0 ∧ b = 11) → ¬ (a = 2 + 2 * k ∧ (b = 1 ∨ b = 2 ∨ b = 3)) → M2 a b = M a b := fun a b c1 c2 c3 c4 c5 c6 c7 => by rw [u2 a b c1 c2 c3 c4, u8 a b c5 c6 c7]
          refine h.chgSh (fun a b t1 t2 => au a b (by unfold relSh at t2; omega) (by unfold relMs at t1; omega) (by unfold relSh at t2; omega) (by unfold relSh at t2; omega) (by unfold relSh at t2; omega) (by unfold relMs at t1; omega) (by unfold relSh at t2; omega)) ⟨?_, ?_, ?_⟩ (fun k' hk' => ?_)
          · rw [au 23 3 (by omega) (by omega) (by omega) (by omega) (by omega) (by omega) (by omega), au 83 8 (by omega) (by omega) (by omega) (by omega) (by omega) (by omega) (by omega)]; exact hS.1
          · rw [u2 0 11 (by omega) (by omega) (by omega) (by omega), r2 0 11 (by omega), up2_of (by omega), up2_of (by omega), up2_of (by omega), up2_at, s2 83 0 (by omega), up2_of (by omega), up2_of (by omega), up2_at]
          · rw [au 0 10 (by omega) (by omega) (by omega) (by omega) (by omega) (by omega) (by omega), au 83 1 (by omega) (by omega) (by omega) (by omega) (by omega) (by omega) (by omega)]; exact hS.2.2
          · by_cases hkk : k' = k
            · subst hkk
              have x1 : M2 (2 + 2 * k') 1 = 1 := by rw [u2 _ 1 (by omega) (by omega) (by omega) (by omega), r2 _ 1 (by omega), up2_of (by omega), up2_of (by omega), up2_at]
              have x2 : M2 (2 + 2 * k') 2 = nI lane := by rw [u2 _ 2 (by omega) (by omega) (by omega) (by omega), r2 _ 2 (by omega), up2_of (by omega), up2_at]
              have x3 : M2 (2 + 2 * k') 3 = nI L := by rw [u2 _ 3 (by omega) (by omega) (by omega) (by omega), r2 _ 3 (by omega), up2_at]
              have x4 : M2 84 k' = nI lane := by rw [s2 84 k' (by omega), up2_of (by omega), up2_at]
              have x5 : M2 85 k' = nI L := by rw [s2 85 k' (by omega), up2_at]
              rw [x1, x2, x3, x4, x5]
              refine ⟨Or.inr rfl, by rw [if_neg (by decide)], fun _ => ⟨lane, hl2, rfl⟩, rfl, L, hL60, rfl, fun i hi => ?_⟩
              rw [s1 i (by omega) (by omega), u2 _ i (by omega) (by omega) (by omega) (by omega), show 3 + 2 * k' = 2 + 2 * k' + 1 by omega, r1 i (by omega) hi]
            · obtain ⟨f1, f2, f3, f4, L', f5, f6, f7⟩ := h3 k' hk'
              rw [au (2 + 2 * k') 1 (by omega) (by omega) (by omega) (by omega) (by omega) (by omega) (by omega), au (2 + 2 * k') 2 (by omega) (by omega) (by omega) (by omega) (by omega) (by omega) (by omega), au (2 + 2 * k') 3 (by omega) (by omega) (by omega) (by omega) (by omega) (by omega) (by omega), au 84 k' (by omega) (by omega) (by omega) (by omega) (by omega) (by omega) (by omega), au 85 k' (by omega) (by omega) (by omega) (by omega) (by omega) (by omega) (by omega)]
              refine ⟨f1, f2, f3, f4, L', f5, f6, fun i hi => ?_⟩
              rw [au (3 + 2 * k') i (by omega) (by omega) (by omega) (by omega) (by omega) (by omega) (by omega), au 86 (60 * k' + i) (by omega) (by omega) (by omega) (by omega) (by omega) (by omega) (by omega)]
              exact f7 i hi
        · exact ⟨-14, up2 (up2 M 0 11 0) 0 11 4, up2 (up2 (up2 (up2 M 0 11 0) 0 11 4) 83 0 0) 83 0 4, by simp [f_X10_sheet, nm_eq, q_X10_isSheet, q_X10_isLane, hin, hln, br_s, bi_s, b2i0, q60, q0, fl10], by simp [f_X11_sheet, nm_eq, q_X11_isSheet, q_X11_isSort, hin, hln, br_s, bi_s, b2i0, q60, q0, fl11], h.flt 0 0 4 4 rfl⟩
      · exact ⟨-2, up2 M 0 11 0, up2 (up2 M 0 11 0) 83 0 0, by simp [f_X10_sheet, nm_eq, q_X10_isSheet, q_X10_isLane, hin, hln, br_s, b2i0, q60], by simp [f_X11_sheet, nm_eq, q_X11_isSheet, q_X11_isSort, hin, hln, br_s, b2i0, q60], h.flt1 0⟩
