theorem s_restore : St_restore Inv := by
  intro M h a1
  obtain ⟨n, kd, ld, br, ht, dr, hd, tr, hL, hS, h3, ⟨p, q, hp, hq, p3, p4, p5, old⟩, h5, h6⟩ := id h
  cases hin : inR a1 0 1 with
  | false => exact ⟨-1, M, M, by simp [f_X10_restore, q_X10_isImage, hin, br_s, b2i0], by simp [f_X11_restore, w11_0_1, hin, br_s, b2i0], h⟩
  | true =>
    obtain ⟨i, i1, rfl⟩ := inR_yes0 (by omega) hin
    have bi2 : ib (nI i) 2 = true := ib_ok (by omega) (by omega)
    have cl := nI_clamp (show i < 2 ^ 31 by omega)
    obtain ⟨g1, g2, g3⟩ := h5 i (by omega)
    rcases g1 with g1 | g1
    · exact ⟨-3, M, M, by simp [f_X10_restore, q_X10_isImage, hin, br_s, b2i0, bi2, cl, g1], by simp [f_X11_restore, w11_0_1, hin, br_s, b2i0, bi2, cl, g2, g1], h⟩
    · obtain ⟨⟨f1, f2⟩, f3, f4, ⟨hd', b1, b2, b3⟩, ⟨tr', c1, c2, c3⟩⟩ := g3 g1
      have z : ¬ M 19 i = 0 := by rw [g1]; decide
      obtain ⟨M5, e5, t1, t2, t3, t4, t5⟩ := ta M (k0 := 23) (k1 := 11 + 4 * i) (by omega)
      generalize eM1 : up2 M5 27 1 (0 : Int32) = M1
      have u1 : ∀ k j, ¬ (23 ≤ k ∧ k ≤ 26) → ¬ (k = 27 ∧ j = 1) → M1 k j = M k j := fun k j r1 r2 => by rw [← eM1, up2_of r2, t5 k j (by omega)]
      have e1 : f_X10_restore M (nI i) = some (M (11 + 4 * i) 3, M1) := by
        simp [f_X10_restore, q_X10_isImage, hin, br_s, b2i0, bi2, cl, z, e5, f_X3_forget, nm_eq, eM1]
        rw [← eM1, up2_of (by omega), t2]
      obtain ⟨M4, e4, m1, m2, m3⟩ := m_read M1 (k1 := 96) (n1 := 50) (o := 25 * i) (by omega) (by omega) (by omega)
      have a97 : M4 97 i = nI hd' := by rw [m3 97 i (by omega) (by omega), u1 97 i (by omega) (by omega), f3, b3]
      have a98 : M4 98 i = nI tr' := by rw [m3 98 i (by omega) (by omega), u1 98 i (by omega) (by omega), f4, c3]
      have a8 : M4 83 8 = M (11 + 4 * i) 3 := by rw [m2, u1 96 _ (by omega) (by omega), f2]
      generalize eM2 : up2 (up2 (up2 M4 83 6 (nI hd')) 83 7 (nI tr')) 83 21 (0 : Int32) = M2
      have e2 : f_X11_restore M1 (nI i) = some (M (11 + 4 * i) 3, M2) := by
        have y : ¬ M1 95 i = 0 := by rw [u1 95 i (by omega) (by omega), g2]; exact z
        unfold f_X11_restore
        simp only [w11_0_1, hin, br_s, b2i0, Bool.true_eq_false, if_false, if_pos bi2, cl, if_neg y, show (25 : Int32) * nI i = nI (25 * i) from pk_mul 25 i, e4, nm_eq, a97, up2_of (show ¬ (98 = 83 ∧ i = 6) by omega), a98, eM2]
        rw [← eM2, up2_of (by omega), up2_of (by omega), up2_of (by omega), a8]
      refine ⟨_, M1, M2, e1, e2, ?_⟩
      have u2 : ∀ k j, ¬ (k = 83 ∧ (j = 6 ∨ j = 7 ∨ j = 21)) → M2 k j = M4 k j := fun k j r => by rw [← eM2, up2_of (by omega), up2_of (by omega), up2_of (by omega)]
      have w : ∀ k j, ¬ (88 ≤ k ∧ k ≤ 90) → ¬ (k = 83 ∧ (j = 6 ∨ j = 7 ∨ j = 8 ∨ j = 21)) → M2 k j = M1 k j := fun k j r1 r2 => by rw [u2 k j (by omega), m3 k j r1 (by omega)]
      have hw : ∀ k j, ¬ (88 ≤ k ∧ k ≤ 90) → ¬ (k = 83 ∧ (j = 6 ∨ j = 7 ∨ j = 8 ∨ j = 21)) → ¬ (23 ≤ k ∧ k ≤ 26) → ¬ (k = 27 ∧ j = 1) → M2 k j = M k j := fun k j r1 r2 r3 r4 => by rw [w k j r1 r2, u1 k j r3 r4]
      have g24 : ∀ j, j < 8 → M2 24 j = M (11 + 4 * i + 1) j ∧ M2 25 j = M (11 + 4 * i + 2) j ∧ M2 26 j = M (11 + 4 * i + 3) j := by
        intro j hj
        obtain ⟨x1, x2, x3⟩ := t1 j hj
        rw [w 24 j (by omega) (by omega), w 25 j (by omega) (by omega), w 26 j (by omega) (by omega), ← eM1, up2_of (by omega), up2_of (by omega), up2_of (by omega)]
        exact ⟨x1, x2, x3⟩
      have g88 : ∀ j, j < 8 → M2 90 j = M 96 (25 * i + j) ∧ M2 88 j = M 96 (25 * i + 8 + j) ∧ M2 89 j = M 96 (25 * i + 16 + j) := by
        intro j hj
        obtain ⟨x1, x2, x3⟩ := m1 j hj
        rw [u2 90 j (by omega), u2 88 j (by omega), u2 89 j (by omega), x1, x2, x3, u1 96 _ (by omega) (by omega), u1 96 _ (by omega) (by omega), u1 96 _ (by omega) (by omega)]
        exact ⟨rfl, rfl, rfl⟩
      have h23 : ∀ j, M2 23 j = M5 23 j := fun j => by rw [w 23 j (by omega) (by omega), ← eM1, up2_of (by omega)]
      refine ⟨n, kd, fun j => (M (11 + 4 * i + 1) j).toNatClampNeg, fun j => (M (11 + 4 * i + 2) j).toNatClampNeg, fun j => (M (11 + 4 * i + 3) j).toNatClampNeg, dr, hd', tr', hL.chg (fun k j r => hw k j (by omega) (by omega) (by omega) (by omega)) (fun j hj => ?_) (fun j hj => ?_) (fun j hj => ?_) ⟨?_, ?_, b2, Or.inr b1⟩ ⟨?_, ?_, c2, Or.inr c1⟩, ⟨?_, ?_, ?_⟩, h3.cong (fun k j r => hw k j (by unfold relSh at r; omega) (by unfold relSh at r; omega) (by unfold relSh at r; omega) (by unfold relSh at r; omega)), ?_, h5.cong (fun k j r => hw k j (by unfold relIm at r; omega) (by unfold relIm at r; omega) (by unfold relIm at r; omega) (by unfold relIm at r; omega)), h6.cong (fun k j r => hw k j (by unfold relRd at r; omega) (by unfold relRd at r; omega) (by unfold relRd at r; omega) (by unfold relRd at r; omega))⟩
      · obtain ⟨⟨y1, y2⟩, -, -⟩ := f1 j hj
        obtain ⟨d1, d2⟩ := isD_tn (by omega) y2
        rw [(g24 j hj).1, (g88 j hj).2.1, ← y1]
        exact ⟨d1, d1, d2⟩
      · obtain ⟨-, ⟨y1, y2⟩, -⟩ := f1 j hj
        obtain ⟨d1, d2⟩ := isD_tn (by omega) y2
        rw [(g24 j hj).2.1, (g88 j hj).2.2, ← y1]
        exact ⟨d1, d1, d2⟩
      · obtain ⟨-, -, ⟨y1, y2⟩⟩ := f1 j hj
        obtain ⟨d1, d2⟩ := isD_tn (by omega) y2
        rw [(g24 j hj).2.2, (g88 j hj).1, ← y1]
        exact ⟨d1, d1, d2⟩
      · rw [h23, t3, b3]
      · rw [← eM2, up2_of (by omega), up2_of (by omega), up2_at]
      · rw [h23, t4, c3]
      · rw [← eM2, up2_of (by omega), up2_at]
      · rw [h23, t2, u2 83 8 (by omega), a8]
      · rw [hw 0 11 (by omega) (by omega) (by omega) (by omega), hw 83 0 (by omega) (by omega) (by omega) (by omega)]; exact hS.2.1
      · rw [hw 0 10 (by omega) (by omega) (by omega) (by omega), hw 83 1 (by omega) (by omega) (by omega) (by omega)]; exact hS.2.2
      · refine ⟨0, q, by omega, hq, ?_, ?_, ?_, fun i hi => by omega⟩
        · rw [w 27 1 (by omega) (by omega), ← eM1, up2_at]; rfl
        · rw [hw 27 2 (by omega) (by omega) (by omega) (by omega)]; exact p4
        · rw [← eM2, up2_at]; rfl
