theorem up2_self {M : MM} {k j : Nat} {v : Int32} (h : M k j = v) : up2 M k j v = M := by
  funext a b
  rw [up2_eq]
  split
  · rename_i q
    rw [q.1, q.2, h]
  · rfl
/-- behind a change that is remembered -/
theorem fin_rem {M M2 : MM} {n : Nat} {kd ld br ht dr ld' br' ht' : Nat → Nat} {hd tr p q : Nat} (hL : LoI M n kd ld br ht dr hd tr) (hS : MsI M) (h3 : ShI M) (h5 : ImI M) (h6 : RdI M n) (hp : p ≤ 8) (hq : q < 8) (old : ∀ i, i < p → rigEq M (29 + 4 * ((q + 8 - p + i) % 8)) 94 (25 * i))
    (a : ∀ k j, ¬ relPs k j → ¬ (24 ≤ k ∧ k ≤ 26) → ¬ (88 ≤ k ∧ k ≤ 90) → ¬ (k = 23 ∧ j = 3) → ¬ (k = 83 ∧ j = 8) → ¬ scrP k j → M2 k j = M k j) (eL : ∀ j, j < 8 → M2 24 j = nI (ld' j) ∧ M2 88 j = nI (ld' j) ∧ ld' j ≤ 9) (eB : ∀ j, j < 8 → M2 25 j = nI (br' j) ∧ M2 89 j = nI (br' j) ∧ br' j ≤ 9) (eH : ∀ j, j < 8 → M2 26 j = nI (ht' j) ∧ M2 90 j = nI (ht' j) ∧ ht' j ≤ 9) (est : M2 23 3 = M2 83 8)
    (c1 : M2 27 1 = nI (if p < 8 then p + 1 else 8)) (c2 : M2 27 2 = nI ((q + 1) % 8)) (c3 : ∀ j, j < 8 → M2 (29 + 4 * q + 1) j = M 24 j ∧ M2 (29 + 4 * q + 2) j = M 25 j ∧ M2 (29 + 4 * q + 3) j = M 26 j) (c4 : M2 (29 + 4 * q) 3 = M 23 3) (c5 : ∀ k j, 29 ≤ k → k ≤ 60 → (k < 29 + 4 * q ∨ 29 + 4 * q + 3 < k) → M2 k j = M k j) (m1 : M2 83 21 = nI (if p < 8 then p + 1 else 8)) (m2 : ∀ j, j < 8 → M2 94 (25 * (if p < 8 then p else 7) + j) = M 90 j ∧ M2 94 (25 * (if p < 8 then p else 7) + 8 + j) = M 88 j ∧ M2 94 (25 * (if p < 8 then p else 7) + 16 + j) = M 89 j) (m3 : M2 94 (25 * (if p < 8 then p else 7) + 24) = M 83 8) (m4 : ∀ x, x < 25 * (if p < 8 then p else 7) → M2 94 x = M 94 (if p < 8 then x else x + 25)) : Inv M2 := by
  have a' : ∀ k j, ((k = 0 ∧ (j = 10 ∨ j = 11)) ∨ (2 ≤ k ∧ k ≤ 9) ∨ (11 ≤ k ∧ k ≤ 22) ∨ (k = 23 ∧ (j = 4 ∨ j = 5)) ∨ (61 ≤ k ∧ k ≤ 64) ∨ (k = 83 ∧ (j = 0 ∨ j = 1 ∨ j = 5 ∨ j = 6 ∨ j = 7 ∨ j = 35)) ∨ (84 ≤ k ∧ k ≤ 87) ∨ k = 91 ∨ (95 ≤ k ∧ k ≤ 98) ∨ (103 ≤ k ∧ k ≤ 105)) → M2 k j = M k j := by
    intro k j r
    refine a k j ?_ (by omega) (by omega) (by omega) (by omega) ?_
    · unfold relPs; omega
    · unfold scrP; omega
  refine ⟨n, kd, ld', br', ht', dr, hd, tr, hL.chg (fun k j r => a' k j (by omega)) eL eB eH (hL.e4 (a' _ _ (by omega)) (a' _ _ (by omega))) (hL.e5 (a' _ _ (by omega)) (a' _ _ (by omega))), ⟨est, ?_, ?_⟩, h3.cong (fun k j r => a' k j (by unfold relSh at r; omega)), ps_rem hp hq old hL.dg hS.1 c1 c2 c3 c4 c5 m1 m2 m3 m4, h5.cong (fun k j r => a' k j (by unfold relIm at r; omega)), h6.cong (fun k j r => a' k j (by unfold relRd at r; omega))⟩
  · rw [a' 0 11 (by omega), a' 83 0 (by omega)]; exact hS.2.1
  · rw [a' 0 10 (by omega), a' 83 1 (by omega)]; exact hS.2.2
theorem rn_d : ∀ h, h < 7 → ∀ b, b < 10 → ∀ v, v < 10 → (nI h < nI b - nI v ↔ h + v < b) := by decide +kernel
theorem c_runs {M : MM} {j hd b v h : Nat} (hj : j < 8) (h1 : M 23 4 = nI hd) (h2 : M 25 j = nI b) (h3 : M 24 j = nI v) (h4 : M 26 j = nI h) (r1 : hd ≤ 6) (r2 : b ≤ 9) (r3 : v ≤ 9) : f_X1_runsAway M (nI j) = some (b2i (decide (hd + v < b)), up2 M 26 j (nI (if hd + v < b then 9 else h))) := by
  have bj : ib (nI j) 8 = true := ib_ok hj (by omega)
  unfold f_X1_runsAway
  simp only [if_pos bj, nI_clamp (show j < 2 ^ 31 by omega), h1, h2, h3, nm_eq]
  by_cases q : hd + v < b
  · rw [if_pos ((rn_d hd (by omega) b (by omega) v (by omega)).mpr q), if_pos q, decide_eq_true q]
    rfl
  · rw [if_neg (fun z => q ((rn_d hd (by omega) b (by omega) v (by omega)).mp z)), if_neg q, decide_eq_false q, up2_self h4]
    rfl
theorem m_runs {M : MM} {j hd b v h : Nat} (hj : j < 8) (h1 : M 83 6 = nI hd) (h2 : M 89 j = nI b) (h3 : M 88 j = nI v) (h4 : M 90 j = nI h) (r1 : hd ≤ 6) (r2 : b ≤ 9) (r3 : v ≤ 9) : f_X11_runsAway M (nI j) = some (b2i (decide (hd + v < b)), up2 M 90 j (nI (if hd + v < b then 9 else h))) := by
  have bj : ib (nI j) 8 = true := ib_ok hj (by omega)
  unfold f_X11_runsAway
  simp only [if_pos bj, nI_clamp (show j < 2 ^ 31 by omega), h1, h2, h3, nm_eq]
  by_cases q : hd + v < b
  · rw [if_pos ((rn_d hd (by omega) b (by omega) v (by omega)).mpr q), if_pos q, decide_eq_true q]
    rfl
  · rw [if_neg (fun z => q ((rn_d hd (by omega) b (by omega) v (by omega)).mp z)), if_neg q, decide_eq_false q, up2_self h4]
    rfl
theorem s_hang : St_hang Inv := by
  intro M h a1 a2
  obtain ⟨n, kd, ld, br, ht, dr, hd, tr, hL, hS, h3, ⟨p, q, hp, hq, p3, p4, p5, old⟩, h5, h6⟩ := id h
  have n8 := hL.n8
  cases hin : hb n a1 with
  | false => exact ⟨-1, M, M, by simp [f_X10_hang, c_has hL.n1, hin, br_s, b2i0], by simp [f_X11_hang, m_has hL.n2, hin, br_s, b2i0], h⟩
  | true =>
    obtain ⟨j, hj, rfl⟩ := hb_yes (by omega) hin
    have hj8 : j < 8 := by omega
    have bj : ib (nI j) 8 = true := ib_ok hj8 (by omega)
    have cl := nI_clamp (show j < 2 ^ 31 by omega)
    have hr := hL.rg hj8
    cases h2 : inR a2 0 9 with
    | false => exact ⟨-2, M, M, by simp [f_X10_hang, c_has hL.n1, hin, br_s, b2i0, q_X10_isDigit, h2], by simp [f_X11_hang, m_has hL.n2, hin, br_s, b2i0, q_X11_isDigit, h2], h⟩
    | true =>
      obtain ⟨v, v9, rfl⟩ := inR_yes0 (by omega) h2
      by_cases h0 : ht j = 0
      · have z1 : M 26 j = 0 := by rw [hL.hC hj8, h0]; rfl
        have z2 : M 90 j = 0 := by rw [hL.hM hj8, h0]; rfl
        obtain ⟨Mc, ec, c1, c2, c3, c4, c5⟩ := c_rem M hp hq p3 p4
        have k23 : ∀ k i, k < 27 → Mc k i = M k i := fun k i hk => c5 k i (by omega) (by omega)
        have e1 : f_X10_hang M (nI j) (nI v) = some (b2i (decide (hd + v < br j)), up2 (up2 Mc 24 j (nI v)) 26 j (nI (if hd + v < br j then 9 else ht j))) := by
          have er := c_runs (M := up2 Mc 24 j (nI v)) (b := br j) (v := v) (h := ht j) hj8 (by rw [up2_of (by omega), k23 23 4 (by omega), hL.aC]) (by rw [up2_of (by omega), k23 25 j (by omega), hL.bC hj8]) (up2_at _ _ _ _) (by rw [up2_of (by omega), k23 26 j (by omega), hL.hC hj8]) hL.a6 hr.2.2.1 v9
          simp [f_X10_hang, c_has hL.n1, hin, br_s, bi_s, b2i0, q_X10_isDigit, h2, bj, cl, z1, ec, nm_eq, er]
        generalize eM1 : up2 (up2 Mc 24 j (nI v)) 26 j (nI (if hd + v < br j then 9 else ht j)) = M1 at e1
        have u1 : ∀ k i, ¬ (k = 24 ∧ i = j) → ¬ (k = 26 ∧ i = j) → M1 k i = Mc k i := fun k i r1 r2 => by rw [← eM1, up2_of r2, up2_of r1]
        have w1 : ∀ k i, 61 ≤ k → M1 k i = M k i := fun k i hk => by rw [u1 k i (by omega) (by omega), c5 k i (by omega) (by omega)]
        obtain ⟨Mm, em, m1, m2, m3, m4, m5⟩ := m_rem M1 hp (by rw [w1 83 21 (by omega)]; exact p5)
        have e2 : f_X11_hang M1 (nI j) (nI v) = some (b2i (decide (hd + v < br j)), up2 (up2 Mm 88 j (nI v)) 90 j (nI (if hd + v < br j then 9 else ht j))) := by
          have er := m_runs (M := up2 Mm 88 j (nI v)) (b := br j) (v := v) (h := ht j) hj8 (by rw [up2_of (by omega), m5 83 6 (by omega) (by omega), w1 83 6 (by omega), hL.aM]) (by rw [up2_of (by omega), m5 89 j (by omega) (by omega), w1 89 j (by omega), hL.bM hj8]) (up2_at _ _ _ _) (by rw [up2_of (by omega), m5 90 j (by omega) (by omega), w1 90 j (by omega), hL.hM hj8]) hL.a6 hr.2.2.1 v9
          have y1 : M1 83 5 = nI n := by rw [w1 83 5 (by omega), hL.n2]
          have y2 : M1 90 j = 0 := by rw [w1 90 j (by omega), z2]
          simp [f_X11_hang, m_has y1, hin, br_s, bi_s, b2i0, q_X11_isDigit, h2, bj, cl, y2, em, nm_eq, er]
        refine ⟨_, M1, _, e1, e2, ?_⟩
        generalize eM2 : up2 (up2 Mm 88 j (nI v)) 90 j (nI (if hd + v < br j then 9 else ht j)) = M2
        have u2 : ∀ k i, ¬ (k = 88 ∧ i = j) → ¬ (k = 90 ∧ i = j) → M2 k i = Mm k i := fun k i r1 r2 => by rw [← eM2, up2_of r2, up2_of r1]
        have cc : ∀ k i, k < 61 → ¬ (k = 24 ∧ i = j) → ¬ (k = 26 ∧ i = j) → M2 k i = Mc k i := fun k i hk r1 r2 => by rw [u2 k i (by omega) (by omega), m5 k i (by omega) (by omega), u1 k i r1 r2]
        have mm : ∀ k i, 61 ≤ k → k ≠ 94 → ¬ (k = 83 ∧ i = 21) → ¬ (k = 88 ∧ i = j) → ¬ (k = 90 ∧ i = j) → M2 k i = M k i := fun k i hk g1 g2 r1 r2 => by rw [u2 k i r1 r2, m5 k i g1 g2, w1 k i hk]
        refine fin_rem (ld' := fun i => if i = j then v else ld i) (br' := br) (ht' := fun i => if i = j then (if hd + v < br j then 9 else ht j) else ht i) hL hS h3 h5 h6 hp hq old (fun k i r1 r2 r3 r4 r5 r6 => ?_) (fun i hi => ?_) (fun i hi => ?_) (fun i hi => ?_) ?_ ?_ ?_ (fun i hi => ?_) ?_ (fun k i k1 k2 k3 => ?_) ?_ (fun i hi => ?_) ?_ (fun x hx => ?_)
        · unfold relPs at r1
          by_cases hk : k < 61
          · rw [cc k i hk (by omega) (by omega), c5 k i (by omega) (by omega)]
          · exact mm k i (by omega) (by omega) (by omega) (by omega) (by omega)
        · try dsimp only
          by_cases hij : i = j
          · subst hij
            rw [if_pos rfl]
            refine ⟨?_, ?_, v9⟩
            · rw [u2 24 i (by omega) (by omega), m5 24 i (by omega) (by omega), ← eM1, up2_of (by omega), up2_at]
            · rw [← eM2, up2_of (by omega), up2_at]
          · rw [if_neg hij, cc 24 i (by omega) (by omega) (by omega), k23 24 i (by omega), mm 88 i (by omega) (by omega) (by omega) (by omega) (by omega)]
            exact ⟨hL.lC hi, hL.lM hi, (hL.rg hi).2.1⟩
        · rw [cc 25 i (by omega) (by omega) (by omega), k23 25 i (by omega), mm 89 i (by omega) (by omega) (by omega) (by omega) (by omega)]
          exact ⟨hL.bC hi, hL.bM hi, (hL.rg hi).2.2.1⟩
        · try dsimp only
          by_cases hij : i = j
          · subst hij
            rw [if_pos rfl]
            refine ⟨?_, ?_, ?_⟩
            · rw [u2 26 i (by omega) (by omega), m5 26 i (by omega) (by omega), ← eM1, up2_at]
            · rw [← eM2, up2_at]
            · split <;> omega
          · rw [if_neg hij, cc 26 i (by omega) (by omega) (by omega), k23 26 i (by omega), mm 90 i (by omega) (by omega) (by omega) (by omega) (by omega)]
            exact ⟨hL.hC hi, hL.hM hi, (hL.rg hi).2.2.2.1⟩
        · rw [cc 23 3 (by omega) (by omega) (by omega), k23 23 3 (by omega), mm 83 8 (by omega) (by omega) (by omega) (by omega) (by omega)]
          exact hS.1
        · rw [cc 27 1 (by omega) (by omega) (by omega)]; exact c1
        · rw [cc 27 2 (by omega) (by omega) (by omega)]; exact c2
        · rw [cc _ i (by omega) (by omega) (by omega), cc _ i (by omega) (by omega) (by omega), cc _ i (by omega) (by omega) (by omega)]; exact c3 i hi
        · rw [cc _ 3 (by omega) (by omega) (by omega)]; exact c4
        · rw [cc k i (by omega) (by omega) (by omega)]; exact c5 k i (by omega) k3
        · rw [u2 83 21 (by omega) (by omega)]; exact m1
        · obtain ⟨x1, x2, x3⟩ := m2 i hi
          rw [u2 94 _ (by omega) (by omega), u2 94 _ (by omega) (by omega), u2 94 _ (by omega) (by omega), x1, x2, x3, w1 90 i (by omega), w1 88 i (by omega), w1 89 i (by omega)]
          exact ⟨rfl, rfl, rfl⟩
        · rw [u2 94 _ (by omega) (by omega), m3, w1 83 8 (by omega)]
        · rw [u2 94 x (by omega) (by omega), m4 x hx, w1 94 _ (by omega)]
      · have z1 : ¬ M 26 j = 0 := by rw [hL.hC hj8]; exact nI_n0 (by omega) (by omega)
        have z2 : ¬ M 90 j = 0 := by rw [hL.hM hj8]; exact nI_n0 (by omega) (by omega)
        exact ⟨-3, M, M, by simp [f_X10_hang, c_has hL.n1, hin, br_s, b2i0, q_X10_isDigit, h2, bj, cl, z1], by simp [f_X11_hang, m_has hL.n2, hin, br_s, b2i0, q_X11_isDigit, h2, bj, cl, z2], h⟩
