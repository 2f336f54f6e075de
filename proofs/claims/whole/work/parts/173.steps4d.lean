theorem ta (M : MM) {k0 k1 : Nat} (hd : k0 + 3 < k1 ∨ k1 + 3 < k0) : ∃ M' : MM, f_X6_takeAll M k0 k1 = some M' ∧ (∀ j, j < 8 → M' (k0 + 1) j = M (k1 + 1) j ∧ M' (k0 + 2) j = M (k1 + 2) j ∧ M' (k0 + 3) j = M (k1 + 3) j) ∧ M' k0 3 = M k1 3 ∧ M' k0 4 = M k1 4 ∧ M' k0 5 = M k1 5 ∧ ∀ k j, (k < k0 ∨ k0 + 3 < k) → M' k j = M k j := by
  obtain ⟨M2, e, t1, t2, t3, t4⟩ := tm M hd
  unfold f_X6_takeAll
  rw [e]
  simp only [br_s, nm_eq]
  refine ⟨_, rfl, fun j hj => ?_, ?_, ?_, ?_, fun k j hk => ?_⟩
  · rw [up2_of (by omega), up2_of (by omega), up2_of (by omega), up2_of (by omega), up2_of (by omega), up2_of (by omega)]
    exact t1 j hj
  · rw [up2_of (by omega), up2_of (by omega)]; exact t2
  · rw [up2_of (by omega), up2_at, t3 k1 4 (by omega)]
  · rw [up2_at, up2_of (by omega), t3 k1 5 (by omega)]
  · rw [up2_of (by omega), up2_of (by omega)]; exact t3 k j hk
theorem kp_loop (M : MM) {x y : Nat} (h0 : M 19 0 = nI x) (h1 : M 19 1 = nI y) (hx : x ≤ 1) (hy : y ≤ 1) : g_X10_keep_49 FU M (0 : Int32) (0 : Int32) = some (nI (x + y), M) := by
  have e : FU = 6997 + 1 + 1 + 1 := rfl
  rw [e, g_X10_keep_49, if_neg (by decide), if_pos (by decide)]
  rw [show (0 : Int32).toNatClampNeg = 0 from rfl, h0]
  have s2 : ∀ v : Int32, g_X10_keep_49 (6997 + 1) M v ((0 : Int32) + 1 + 1) = some (v, M) := by
    intro v
    rw [g_X10_keep_49, if_pos (by decide)]
  have s1 : ∀ v : Int32, g_X10_keep_49 (6997 + 1 + 1) M v ((0 : Int32) + 1) = some (v + nI y, M) := by
    intro v
    rw [g_X10_keep_49, if_neg (by decide), if_pos (by decide)]
    rw [show ((0 : Int32) + 1).toNatClampNeg = 1 from rfl, h1]
    have hy' : y = 0 ∨ y = 1 := by omega
    rcases hy' with rfl | rfl
    · rw [if_pos (by decide)]
      simp only [nm_eq, s2]
      rfl
    · rw [if_neg (by decide)]
      simp only [nm_eq, s2]
      rfl
  have hx' : x = 0 ∨ x = 1 := by omega
  have hy' : y = 0 ∨ y = 1 := by omega
  rcases hx' with rfl | rfl
  · rw [if_pos (by decide)]
    simp only [nm_eq, s1]
    rcases hy' with rfl | rfl <;> rfl
  · rw [if_neg (by decide)]
    simp only [nm_eq, s1]
    rcases hy' with rfl | rfl <;> rfl
theorem s_keep : St_keep Inv := by
  intro M h a1
  obtain ⟨n, kd, ld, br, ht, dr, hd, tr, hL, hS, h3, h4, h5, h6⟩ := id h
  cases hin : inR a1 0 1 with
  | false => exact ⟨-1, M, M, by simp [f_X10_keep, q_X10_isImage, hin, br_s, b2i0], by simp [f_X11_keep, w11_0_1, hin, br_s, b2i0], h⟩
  | true =>
    obtain ⟨i, i1, rfl⟩ := inR_yes0 (by omega) hin
    by_cases hn : n = 0
    · subst hn
      exact ⟨-3, M, M, by simp [f_X10_keep, q_X10_isImage, hin, br_s, b2i0, hL.n1, nI_0], by simp [f_X11_keep, w11_0_1, hin, br_s, b2i0, hL.n2, nI_0], h⟩
    · have hz : ¬ nI n = 0 := nI_n0 (by omega) (by have := hL.n8; omega)
      have hps : 1 ≤ hd ∧ 1 ≤ tr := by have := hL.ps; omega
      have bi2 : ib (nI i) 2 = true := ib_ok (by omega) (by omega)
      have cl := nI_clamp (show i < 2 ^ 31 by omega)
      obtain ⟨M5, e5, t1, t2, t3, t4, t5⟩ := ta M (k0 := 11 + 4 * i) (k1 := 23) (by omega)
      generalize eM7 : up2 M5 19 i (1 : Int32) = M7
      have u7 : ∀ k j, ¬ (11 + 4 * i ≤ k ∧ k ≤ 11 + 4 * i + 3) → ¬ (k = 19 ∧ j = i) → M7 k j = M k j := fun k j r1 r2 => by rw [← eM7, up2_of r2, t5 k j (by omega)]
      have k19 : ∀ j, j < 2 → ∃ x, x ≤ 1 ∧ M7 19 j = nI x ∧ (j = i → x = 1) ∧ (j ≠ i → M 19 j = nI x) := by
        intro j hj
        by_cases hji : j = i
        · subst hji
          exact ⟨1, by omega, by rw [← eM7, up2_at]; rfl, fun _ => rfl, fun q => absurd rfl q⟩
        · rcases (h5 j hj).1 with q | q
          · exact ⟨0, by omega, by rw [u7 19 j (by omega) (by omega), q]; rfl, fun q => absurd q hji, fun _ => q⟩
          · exact ⟨1, by omega, by rw [u7 19 j (by omega) (by omega), q]; rfl, fun q => absurd q hji, fun _ => q⟩
      obtain ⟨x, x1, x2, x3, x4⟩ := k19 0 (by omega)
      obtain ⟨y, y1, y2, y3, y4⟩ := k19 1 (by omega)
      have e1 : f_X10_keep M (nI i) = some (nI (x + y), M7) := by
        simp [f_X10_keep, q_X10_isImage, hin, br_s, b2i0, hL.n1, hz, bi2, cl, e5, nm_eq, eM7, kp_loop M7 x2 y2 x1 y1]
      obtain ⟨M4, e4, m1, m2, m3, m4⟩ := m_write M7 (k1 := 96) (n1 := 50) (o := 25 * i) (by omega) (by omega) (by omega)
      generalize eM2 : up2 (up2 (up2 M4 97 i (nI hd)) 98 i (nI tr)) 95 i (1 : Int32) = M2
      have u2 : ∀ k j, k ≠ 96 → ¬ (k = 97 ∧ j = i) → ¬ (k = 98 ∧ j = i) → ¬ (k = 95 ∧ j = i) → M2 k j = M7 k j := fun k j r1 r2 r3 r4 => by rw [← eM2, up2_of r4, up2_of r3, up2_of r2, m4 k j r1]
      have hw : ∀ k j, k ≠ 96 → ¬ (k = 97 ∧ j = i) → ¬ (k = 98 ∧ j = i) → ¬ (k = 95 ∧ j = i) → ¬ (11 + 4 * i ≤ k ∧ k ≤ 11 + 4 * i + 3) → ¬ (k = 19 ∧ j = i) → M2 k j = M k j := fun k j r1 r2 r3 r4 r5 r6 => by rw [u2 k j r1 r2 r3 r4, u7 k j r5 r6]
      have z95 : ∀ j, j < 2 → M2 95 j = M7 19 j := by
        intro j hj
        by_cases hji : j = i
        · subst hji
          rw [← eM2, up2_at, ← eM7, up2_at]
        · rw [hw 95 j (by omega) (by omega) (by omega) (by omega) (by omega) (by omega), (h5 j hj).2.1, u7 19 j (by omega) (by omega)]
      have a4 : M4 83 6 = nI hd := by rw [m4 83 6 (by omega), u7 83 6 (by omega) (by omega), hL.aM]
      have a5 : M4 83 7 = nI tr := by rw [m4 83 7 (by omega), u7 83 7 (by omega) (by omega), hL.tM]
      have e2 : f_X11_keep M7 (nI i) = some (nI (x + y), M2) := by
        have g5 : M7 83 5 = nI n := by rw [u7 83 5 (by omega) (by omega), hL.n2]
        unfold f_X11_keep
        simp only [w11_0_1, hin, br_s, b2i0, Bool.true_eq_false, if_false, g5, if_neg hz, show (25 : Int32) * nI i = nI (25 * i) from pk_mul 25 i, e4, if_pos bi2, cl, nm_eq, a4, up2_of (show ¬ (83 = 97 ∧ 7 = i) by omega), a5, eM2]
        rw [if_pos (show ib (0 : Int32) 2 = true by decide), if_pos (show ib (1 : Int32) 2 = true by decide), show (0 : Int32).toNatClampNeg = 0 from rfl, show (1 : Int32).toNatClampNeg = 1 from rfl, z95 0 (by omega), z95 1 (by omega), x2, y2]
        have hx' : x = 0 ∨ x = 1 := by omega
        have hy' : y = 0 ∨ y = 1 := by omega
        have hi' : i = 0 ∨ i = 1 := by omega
        rcases hx' with rfl | rfl <;> rcases hy' with rfl | rfl
        · rcases hi' with rfl | rfl
          · exact absurd (x3 rfl) (by omega)
          · exact absurd (y3 rfl) (by omega)
        · rw [if_pos (by decide)]; rfl
        · rw [if_neg (by decide), if_pos (by decide)]; rfl
        · rw [if_neg (by decide), if_neg (by decide)]; rfl
      refine ⟨_, M7, M2, e1, e2, ?_⟩
      refine ⟨n, kd, ld, br, ht, dr, hd, tr, hL.cong (fun k j r => hw k j (by unfold relLo at r; omega) (by unfold relLo at r; omega) (by unfold relLo at r; omega) (by unfold relLo at r; omega) (by unfold relLo at r; omega) (by unfold relLo at r; omega)), hS.cong (fun k j r => hw k j (by unfold relMs at r; omega) (by unfold relMs at r; omega) (by unfold relMs at r; omega) (by unfold relMs at r; omega) (by unfold relMs at r; omega) (by unfold relMs at r; omega)), h3.cong (fun k j r => hw k j (by unfold relSh at r; omega) (by unfold relSh at r; omega) (by unfold relSh at r; omega) (by unfold relSh at r; omega) (by unfold relSh at r; omega) (by unfold relSh at r; omega)), h4.cong (fun k j r => hw k j (by unfold relPs at r; omega) (by unfold relPs at r; omega) (by unfold relPs at r; omega) (by unfold relPs at r; omega) (by unfold relPs at r; omega) (by unfold relPs at r; omega)), fun j hj => ?_, h6.cong (fun k j r => hw k j (by unfold relRd at r; omega) (by unfold relRd at r; omega) (by unfold relRd at r; omega) (by unfold relRd at r; omega) (by unfold relRd at r; omega) (by unfold relRd at r; omega))⟩
      have q19 : M2 19 j = M7 19 j := u2 19 j (by omega) (by omega) (by omega) (by omega)
      rw [q19, z95 j hj]
      by_cases hji : j = i
      · subst hji
        have o7 : M7 19 j = 1 := by rw [← eM7, up2_at]
        rw [o7]
        have rr : ∀ k a, 11 + 4 * j ≤ k → k ≤ 11 + 4 * j + 3 → M2 k a = M5 k a := fun k a r1 r2 => by rw [u2 k a (by omega) (by omega) (by omega) (by omega), ← eM7, up2_of (by omega)]
        have r96 : ∀ a, M2 96 a = M4 96 a := fun a => by rw [← eM2, up2_of (by omega), up2_of (by omega), up2_of (by omega)]
        refine ⟨Or.inr rfl, rfl, fun _ => ⟨⟨fun a ha => ?_, ?_⟩, ?_, ?_, ⟨hd, hps.1, hL.a6, ?_⟩, ⟨tr, hps.2, hL.t9, ?_⟩⟩⟩
        · obtain ⟨s1, s2, s3⟩ := t1 a ha
          obtain ⟨w1, w2, w3⟩ := m1 a ha
          obtain ⟨⟨d1, d2⟩, ⟨d3, d4⟩, d5, d6⟩ := hL.dg a ha
          rw [rr _ a (by omega) (by omega), rr _ a (by omega) (by omega), rr _ a (by omega) (by omega), s1, s2, s3, r96, r96, r96, w1, w2, w3, u7 90 a (by omega) (by omega), u7 88 a (by omega) (by omega), u7 89 a (by omega) (by omega)]
          exact ⟨⟨d1, d2⟩, ⟨d3, d4⟩, d5, d6⟩
        · rw [rr _ 3 (by omega) (by omega), t2, r96, m2, u7 83 8 (by omega) (by omega)]
          exact hS.1
        · rw [rr _ 4 (by omega) (by omega), t3, hL.aC, ← eM2, up2_of (by omega), up2_of (by omega), up2_at]
        · rw [rr _ 5 (by omega) (by omega), t4, hL.tC, ← eM2, up2_of (by omega), up2_at]
        · rw [rr _ 4 (by omega) (by omega), t3, hL.aC]
        · rw [rr _ 5 (by omega) (by omega), t4, hL.tC]
      · obtain ⟨g1, g2, g3⟩ := h5 j hj
        have e19 : M7 19 j = M 19 j := u7 19 j (by omega) (by omega)
        rw [e19, hw 97 j (by omega) (by omega) (by omega) (by omega) (by omega) (by omega), hw 98 j (by omega) (by omega) (by omega) (by omega) (by omega) (by omega), hw (11 + 4 * j) 4 (by omega) (by omega) (by omega) (by omega) (by omega) (by omega), hw (11 + 4 * j) 5 (by omega) (by omega) (by omega) (by omega) (by omega) (by omega)]
        refine ⟨g1, rfl, fun q => ⟨?_, (g3 q).2⟩⟩
        obtain ⟨⟨f1, f2⟩, -⟩ := g3 q
        have r96 : ∀ a, a < 25 → M2 96 (25 * j + a) = M 96 (25 * j + a) := fun a ha => by
          rw [← eM2, up2_of (by omega), up2_of (by omega), up2_of (by omega), m3 _ (by omega), u7 96 _ (by omega) (by omega)]
        refine ⟨fun a ha => ?_, ?_⟩
        · rw [hw _ a (by omega) (by omega) (by omega) (by omega) (by omega) (by omega), hw _ a (by omega) (by omega) (by omega) (by omega) (by omega) (by omega), hw _ a (by omega) (by omega) (by omega) (by omega) (by omega) (by omega), show 25 * j + 8 + a = 25 * j + (8 + a) by omega, show 25 * j + 16 + a = 25 * j + (16 + a) by omega, r96 a (by omega), r96 (8 + a) (by omega), r96 (16 + a) (by omega)]
          have := f1 a ha
          rw [show 25 * j + 8 + a = 25 * j + (8 + a) by omega, show 25 * j + 16 + a = 25 * j + (16 + a) by omega] at this
          exact this
        · rw [hw _ 3 (by omega) (by omega) (by omega) (by omega) (by omega) (by omega), r96 24 (by omega)]
          exact f2
