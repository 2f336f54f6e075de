theorem sub_sw (s v b : Int32) : s - (v - b) = s + (b - v) := by
  rw [Int32.sub_eq_add_neg, Int32.neg_sub]
theorem s_brick : St_brick Inv := by
  intro M h a1 a2
  obtain ⟨n, kd, ld, br, ht, dr, hd, tr, hL, hS, h3, ⟨p, q, hp, hq, p3, p4, p5, old⟩, h5, h6⟩ := id h
  have n8 := hL.n8
  cases hin : hb n a1 with
  | false => exact ⟨-1, M, M, by simp [f_X10_brick, c_has hL.n1, hin, br_s, b2i0], by simp [f_X11_brick, m_has hL.n2, hin, br_s, b2i0], h⟩
  | true =>
    obtain ⟨j, hj, rfl⟩ := hb_yes (by omega) hin
    have hj8 : j < 8 := by omega
    have bj : ib (nI j) 8 = true := ib_ok hj8 (by omega)
    have cl := nI_clamp (show j < 2 ^ 31 by omega)
    have hr := hL.rg hj8
    cases h2 : inR a2 0 9 with
    | false => exact ⟨-2, M, M, by simp [f_X10_brick, c_has hL.n1, hin, br_s, b2i0, q_X10_isDigit, h2], by simp [f_X11_brick, m_has hL.n2, hin, br_s, b2i0, q_X11_isDigit, h2], h⟩
    | true =>
      obtain ⟨v, v9, rfl⟩ := inR_yes0 (by omega) h2
      have hsub : M 23 3 = M 83 8 := hS.1
      by_cases h0 : ht j = 0 ∧ nI v - nI (br j) ≤ M 23 3
      · obtain ⟨h0, hst⟩ := h0
        have hst2 : nI v - nI (br j) ≤ M 83 8 := hsub ▸ hst
        have z1 : M 26 j = 0 := by rw [hL.hC hj8, h0]; rfl
        have z2 : M 90 j = 0 := by rw [hL.hM hj8, h0]; rfl
        obtain ⟨Mc, ec, c1, c2, c3, c4, c5⟩ := c_rem M hp hq p3 p4
        have k23 : ∀ k i, k < 27 → Mc k i = M k i := fun k i hk => c5 k i (by omega) (by omega)
        have e1 : f_X10_brick M (nI j) (nI v) = some (b2i (decide (hd + ld j < v)), up2 (up2 (up2 Mc 25 j (nI v)) 23 3 (M 23 3 - (nI v - nI (br j)))) 26 j (nI (if hd + ld j < v then 9 else ht j))) := by
          have er := c_runs (M := up2 (up2 Mc 25 j (nI v)) 23 3 (M 23 3 - (nI v - nI (br j)))) (b := v) (v := ld j) (h := ht j) hj8 (by rw [up2_of (by omega), up2_of (by omega), k23 23 4 (by omega), hL.aC]) (by rw [up2_of (by omega), up2_at]) (by rw [up2_of (by omega), up2_of (by omega), k23 24 j (by omega), hL.lC hj8]) (by rw [up2_of (by omega), up2_of (by omega), k23 26 j (by omega), hL.hC hj8]) hL.a6 v9 hr.2.1
          simp [f_X10_brick, c_has hL.n1, hin, br_s, bi_s, b2i0, q_X10_isDigit, h2, bj, cl, z1, ec, nm_eq, hL.bC hj8, hst, up2_of (show ¬ (23 = 25 ∧ 3 = j) by omega), k23 23 3 (by omega), er]
        generalize eM1 : up2 (up2 (up2 Mc 25 j (nI v)) 23 3 (M 23 3 - (nI v - nI (br j)))) 26 j (nI (if hd + ld j < v then 9 else ht j)) = M1 at e1
        have u1 : ∀ k i, ¬ (k = 25 ∧ i = j) → ¬ (k = 26 ∧ i = j) → ¬ (k = 23 ∧ i = 3) → M1 k i = Mc k i := fun k i r1 r2 r3 => by rw [← eM1, up2_of r2, up2_of r3, up2_of r1]
        have w1 : ∀ k i, 61 ≤ k → M1 k i = M k i := fun k i hk => by rw [u1 k i (by omega) (by omega) (by omega), c5 k i (by omega) (by omega)]
        obtain ⟨Mm, em, m1, m2, m3, m4, m5⟩ := m_rem M1 hp (by rw [w1 83 21 (by omega)]; exact p5)
        have e2 : f_X11_brick M1 (nI j) (nI v) = some (b2i (decide (hd + ld j < v)), up2 (up2 (up2 Mm 83 8 (M 83 8 + (nI (br j) - nI v))) 89 j (nI v)) 90 j (nI (if hd + ld j < v then 9 else ht j))) := by
          have er := m_runs (M := up2 (up2 Mm 83 8 (M 83 8 + (nI (br j) - nI v))) 89 j (nI v)) (b := v) (v := ld j) (h := ht j) hj8 (by rw [up2_of (by omega), up2_of (by omega), m5 83 6 (by omega) (by omega), w1 83 6 (by omega), hL.aM]) (up2_at _ _ _ _) (by rw [up2_of (by omega), up2_of (by omega), m5 88 j (by omega) (by omega), w1 88 j (by omega), hL.lM hj8]) (by rw [up2_of (by omega), up2_of (by omega), m5 90 j (by omega) (by omega), w1 90 j (by omega), hL.hM hj8]) hL.a6 v9 hr.2.1
          have y1 : M1 83 5 = nI n := by rw [w1 83 5 (by omega), hL.n2]
          have y2 : M1 90 j = 0 := by rw [w1 90 j (by omega), z2]
          have y3 : M1 89 j = nI (br j) := by rw [w1 89 j (by omega), hL.bM hj8]
          have y4 : M1 83 8 = M 83 8 := w1 83 8 (by omega)
          have y5 : Mm 83 8 = M 83 8 := by rw [m5 83 8 (by omega) (by omega), y4]
          have y6 : Mm 89 j = nI (br j) := by rw [m5 89 j (by omega) (by omega), y3]
          simp [f_X11_brick, m_has y1, hin, br_s, bi_s, b2i0, q_X11_isDigit, h2, bj, cl, y2, y3, y4, hst2, em, nm_eq, y5, y6, er]
        refine ⟨_, M1, _, e1, e2, ?_⟩
        generalize eM2 : up2 (up2 (up2 Mm 83 8 (M 83 8 + (nI (br j) - nI v))) 89 j (nI v)) 90 j (nI (if hd + ld j < v then 9 else ht j)) = M2
        have u2 : ∀ k i, ¬ (k = 89 ∧ i = j) → ¬ (k = 90 ∧ i = j) → ¬ (k = 83 ∧ i = 8) → M2 k i = Mm k i := fun k i r1 r2 r3 => by rw [← eM2, up2_of r2, up2_of r1, up2_of r3]
        have cc : ∀ k i, k < 61 → ¬ (k = 25 ∧ i = j) → ¬ (k = 26 ∧ i = j) → ¬ (k = 23 ∧ i = 3) → M2 k i = Mc k i := fun k i hk r1 r2 r3 => by rw [u2 k i (by omega) (by omega) (by omega), m5 k i (by omega) (by omega), u1 k i r1 r2 r3]
        have mm : ∀ k i, 61 ≤ k → k ≠ 94 → ¬ (k = 83 ∧ i = 21) → ¬ (k = 89 ∧ i = j) → ¬ (k = 90 ∧ i = j) → ¬ (k = 83 ∧ i = 8) → M2 k i = M k i := fun k i hk g1 g2 r1 r2 r3 => by rw [u2 k i r1 r2 r3, m5 k i g1 g2, w1 k i hk]
        refine fin_rem (ld' := ld) (br' := fun i => if i = j then v else br i) (ht' := fun i => if i = j then (if hd + ld j < v then 9 else ht j) else ht i) hL hS h3 h5 h6 hp hq old (fun k i r1 r2 r3 r4 r5 r6 => ?_) (fun i hi => ?_) (fun i hi => ?_) (fun i hi => ?_) ?_ ?_ ?_ (fun i hi => ?_) ?_ (fun k i k1 k2 k3 => ?_) ?_ (fun i hi => ?_) ?_ (fun x hx => ?_)
        · unfold relPs at r1
          by_cases hk : k < 61
          · rw [cc k i hk (by omega) (by omega) (by omega), c5 k i (by omega) (by omega)]
          · exact mm k i (by omega) (by omega) (by omega) (by omega) (by omega) (by omega)
        · rw [cc 24 i (by omega) (by omega) (by omega) (by omega), k23 24 i (by omega), mm 88 i (by omega) (by omega) (by omega) (by omega) (by omega) (by omega)]
          exact ⟨hL.lC hi, hL.lM hi, (hL.rg hi).2.1⟩
        · try dsimp only
          by_cases hij : i = j
          · subst hij
            rw [if_pos rfl]
            refine ⟨?_, ?_, v9⟩
            · rw [u2 25 i (by omega) (by omega) (by omega), m5 25 i (by omega) (by omega), ← eM1, up2_of (by omega), up2_of (by omega), up2_at]
            · rw [← eM2, up2_of (by omega), up2_at]
          · rw [if_neg hij, cc 25 i (by omega) (by omega) (by omega) (by omega), k23 25 i (by omega), mm 89 i (by omega) (by omega) (by omega) (by omega) (by omega) (by omega)]
            exact ⟨hL.bC hi, hL.bM hi, (hL.rg hi).2.2.1⟩
        · try dsimp only
          by_cases hij : i = j
          · subst hij
            rw [if_pos rfl]
            refine ⟨?_, ?_, ?_⟩
            · rw [u2 26 i (by omega) (by omega) (by omega), m5 26 i (by omega) (by omega), ← eM1, up2_at]
            · rw [← eM2, up2_at]
            · split <;> omega
          · rw [if_neg hij, cc 26 i (by omega) (by omega) (by omega) (by omega), k23 26 i (by omega), mm 90 i (by omega) (by omega) (by omega) (by omega) (by omega) (by omega)]
            exact ⟨hL.hC hi, hL.hM hi, (hL.rg hi).2.2.2.1⟩
        · rw [u2 23 3 (by omega) (by omega) (by omega), m5 23 3 (by omega) (by omega), ← eM1, up2_of (by omega), up2_at, ← eM2, up2_of (by omega), up2_of (by omega), up2_at, hsub]
          exact sub_sw _ _ _
        · rw [cc 27 1 (by omega) (by omega) (by omega) (by omega)]; exact c1
        · rw [cc 27 2 (by omega) (by omega) (by omega) (by omega)]; exact c2
        · rw [cc _ i (by omega) (by omega) (by omega) (by omega), cc _ i (by omega) (by omega) (by omega) (by omega), cc _ i (by omega) (by omega) (by omega) (by omega)]; exact c3 i hi
        · rw [cc _ 3 (by omega) (by omega) (by omega) (by omega)]; exact c4
        · rw [cc k i (by omega) (by omega) (by omega) (by omega)]; exact c5 k i (by omega) k3
        · rw [u2 83 21 (by omega) (by omega) (by omega)]; exact m1
        · obtain ⟨x1, x2, x3⟩ := m2 i hi
          rw [u2 94 _ (by omega) (by omega) (by omega), u2 94 _ (by omega) (by omega) (by omega), u2 94 _ (by omega) (by omega) (by omega), x1, x2, x3, w1 90 i (by omega), w1 88 i (by omega), w1 89 i (by omega)]
          exact ⟨rfl, rfl, rfl⟩
        · rw [u2 94 _ (by omega) (by omega) (by omega), m3, w1 83 8 (by omega)]
        · rw [u2 94 x (by omega) (by omega) (by omega), m4 x hx, w1 94 _ (by omega)]
      · by_cases hz : ht j = 0
        · have z1 : M 26 j = 0 := by rw [hL.hC hj8, hz]; rfl
          have z2 : M 90 j = 0 := by rw [hL.hM hj8, hz]; rfl
          have y1 : ¬ nI v - nI (br j) ≤ M 23 3 := fun q => h0 ⟨hz, q⟩
          have y2 : ¬ nI v - nI (br j) ≤ M 83 8 := hsub ▸ y1
          exact ⟨-3, M, M, by simp [f_X10_brick, c_has hL.n1, hin, br_s, b2i0, q_X10_isDigit, h2, bj, cl, z1, nm_eq, hL.bC hj8, y1], by simp [f_X11_brick, m_has hL.n2, hin, br_s, b2i0, q_X11_isDigit, h2, bj, cl, z2, hL.bM hj8, y2], h⟩
        · have z1 : ¬ M 26 j = 0 := by rw [hL.hC hj8]; exact nI_n0 (by omega) (by omega)
          have z2 : ¬ M 90 j = 0 := by rw [hL.hM hj8]; exact nI_n0 (by omega) (by omega)
          exact ⟨-3, M, M, by simp [f_X10_brick, c_has hL.n1, hin, br_s, b2i0, q_X10_isDigit, h2, bj, cl, z1, nm_eq], by simp [f_X11_brick, m_has hL.n2, hin, br_s, b2i0, q_X11_isDigit, h2, bj, cl, z2], h⟩
