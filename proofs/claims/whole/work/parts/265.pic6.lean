theorem wm2 {v : Int32} (h : (-2 : Int32) ≤ v ∧ v ≤ (7 : Int32)) : v = -2 ∨ v = -1 ∨ ∃ q, q ≤ 7 ∧ v = nI q := by
  by_cases e : v < 0
  · have h1 := Int32.le_iff_toInt_le.mp h.1
    have h2 := Int32.lt_iff_toInt_lt.mp e
    rw [show (-2 : Int32).toInt = -2 from rfl] at h1
    rw [show (0 : Int32).toInt = 0 from rfl] at h2
    by_cases e2 : v.toInt = -2
    · left
      apply Int32.toInt_inj.mp
      rw [show (-2 : Int32).toInt = -2 from rfl]
      exact e2
    · right
      left
      apply Int32.toInt_inj.mp
      rw [show (-1 : Int32).toInt = -1 from rfl]
      omega
  · right
    right
    obtain ⟨q, q1, q2⟩ := nI_of2 (n := 7) (M := (7 : Int32)) rfl e h.2
    exact ⟨q, q1, q2⟩
theorem q8_d : ∀ q, q < 8 → ¬ nI q = (-2 : Int32) ∧ ¬ nI q = (-1 : Int32) := by decide +kernel
theorem n2_d : ∀ n, n < 9 → ¬ nI n ≤ (-2 : Int32) ∧ ¬ nI n ≤ (-1 : Int32) := by decide +kernel
theorem p2m_d : ∀ n, n < 9 → sl32 (1 : Int32) (nI n) - (1 : Int32) = nI (2 ^ n - 1) := by decide +kernel
theorem s_picture : St_picture Inv := by
  intro M h a1 a2
  obtain ⟨n, kd, ld, bw, ht, dr, hd, tr, hL, hS, h3, h4, h5, h6⟩ := id h
  have n8 := hL.n8
  have R := hL.2.2.1
  by_cases hn : n = 0
  · subst hn
    exact ⟨-3, M, M, by unfold f_X10_picture; rw [hL.n1, if_pos (show nI 0 = 0 from rfl)], by unfold f_X11_picture; rw [hL.n2, if_pos (show nI 0 = 0 from rfl)], h⟩
  have hz : ¬ nI n = 0 := nI_n0 (by omega) (by omega)
  have ep := p2m_d n (by omega)
  obtain ⟨-, p256⟩ := p2_d n (by omega)
  by_cases hw : (0 : Int32) ≤ a1 ∧ a1 ≤ nI (2 ^ n - 1)
  · obtain ⟨s, s1, rfl⟩ := (isD_iff (m := 2 ^ n - 1) (by omega)).mpr hw
    have p1 : 0 < 2 ^ n := Nat.pow_pos (by omega)
    have hs : s < 2 ^ n := by omega
    have hs8 : s < 256 := by omega
    by_cases hw2 : (-2 : Int32) ≤ a2 ∧ a2 ≤ (7 : Int32)
    · have eC : f_X10_picture M (nI s) a2 = (if nI n ≤ a2 then (some ((-9 : Int32), M)) else (bi (f_X4_find M (nI s)) fun r5 M6 => (if r5 = 0 then (some ((-9 : Int32), M6)) else (if a2 = (-2 : Int32) then (some ((M6 71 4), M6)) else (if a2 = (-1 : Int32) then (some ((M6 71 5), M6)) else (if ib a2 8 = true then (some ((M6 75 a2.toNatClampNeg), M6)) else none)))))) := by
        unfold f_X10_picture
        rw [hL.n1, if_neg hz, ep, w_within10, br_s, if_pos hw, if_neg (by decide), w_within10, br_s, if_pos hw2, if_neg (by decide)]
      have eM : ∀ M1 : MM, M1 83 5 = nI n → f_X11_picture M1 (nI s) a2 = (bi (f_X11_findPicture M1 (nI s)) fun r5 M6 => (if r5 = (1000000 : Int32) then (some ((-9 : Int32), M6)) else (if 0 ≤ a2 then (br (f_X11_isBatten M6 a2) fun r8 => (if r8 = 0 then (some ((-9 : Int32), M6)) else (if ib a2 8 = true then (some ((M6 100 a2.toNatClampNeg), M6)) else none))) else (if a2 = (-2 : Int32) then (some ((r5 / (1000 : Int32)), M6)) else (some ((rm32 r5 (1000 : Int32)), M6)))))) := fun M1 q => by
        unfold f_X11_picture
        rw [q, if_neg hz, ep, w_within11, br_s, if_pos hw, if_neg (by decide), w_within11, br_s, if_pos hw2, if_neg (by decide)]
      have ll := Lf_le (own := ht) (dr := dr) (P := pl kd ld bw) (hd := hd) (w := fun i => s.testBit i) n 0 tr
      have fin : ∀ (M1 M2 : MM), (∀ k i, ¬ (71 ≤ k ∧ k ≤ 75) → M1 k i = M k i) → (∀ k j, k ≠ 93 → k ≠ 99 → k ≠ 100 → ¬ (k = 83 ∧ (j = 31 ∨ j = 32)) → (k = 90 → j < 8) → M2 k j = M1 k j) → Inv M2 := fun M1 M2 q1 q2 => h.scr2 (fun k i r r2 => by
        unfold scrP at r
        rw [q2 k i (by omega) (by omega) (by omega) (by omega) r2, q1 k i (by omega)])
      have ref : ∀ M1 : MM, (∀ k i, ¬ (71 ≤ k ∧ k ≤ 75) → M1 k i = M k i) → _ := fun M1 q => m_fp (M := M1) (hL.2.1.cong (fun k i g _ => q k i (by omega))) R hs
      by_cases hle : nI n ≤ a2
      · obtain ⟨M2, f1, f2, f3⟩ := ref M (fun _ _ _ => rfl)
        refine ⟨-9, M, M2, by rw [eC, if_pos hle], ?_, fin M M2 (fun _ _ _ => rfl) f3⟩
        rw [eM M hL.n2, f1, bi_s]
        rcases wm2 hw2 with rfl | rfl | ⟨q, q1, rfl⟩
        · exact absurd hle (n2_d n (by omega)).1
        · exact absurd hle (n2_d n (by omega)).2
        · have hnq : ¬ q < n := fun z => absurd hle (nI_ge z (by omega))
          have hbf : hb n (nI q) = false := by
            cases z : hb n (nI q) with
            | false => rfl
            | true =>
              obtain ⟨j, j1, j2⟩ := hb_yes (by omega) z
              have := nI_inj (by omega) (by omega) j2
              omega
          rw [if_pos (nI_nn (by omega)), m_has (n := n) (by rw [f3 _ _ (by omega) (by omega) (by omega) (by omega) (by omega)]; exact hL.n2), hbf, br_s, if_pos (show b2i false = 0 from rfl), ite_self]
      · obtain ⟨M1, g1, g2, g3⟩ := c_pic hL.1 R hs8
        obtain ⟨M2, f1, f2, f3⟩ := ref M1 g3
        have e1 : M1 83 5 = nI n := by rw [g3 _ _ (by omega)]; exact hL.n2
        generalize hLL : Lf ht dr (pl kd ld bw) hd (fun i => s.testBit i) n 0 tr = LL at ll g1 g2 f1 f2
        by_cases hl : LL < 1000000
        · obtain ⟨t1, t2, t3⟩ := g2 hl
          have t4 := f2 hl
          rw [decide_eq_true hl] at g1
          have nm6 : ¬ nI LL = (1000000 : Int32) := fun z => by
            have := nI_inj (b := 1000000) (by omega) (by omega) z
            omega
          rcases wm2 hw2 with rfl | rfl | ⟨q, q1, rfl⟩
          · refine ⟨nI (LL / 1000), M1, M2, by rw [eC, if_neg hle, g1, bi_s, if_neg (by decide), if_pos rfl, t1], ?_, fin M1 M2 g3 f3⟩
            rw [eM M1 e1, f1, bi_s, if_neg nm6, if_neg (by decide), if_pos rfl]
            have ed : nI LL / (1000 : Int32) = nI (LL / 1000) := pk_div (d := 1000) (by omega) (by omega) (by omega)
            rw [ed]
          · refine ⟨nI (LL % 1000), M1, M2, by rw [eC, if_neg hle, g1, bi_s, if_neg (by decide), if_neg (by decide), if_pos rfl, t2], ?_, fin M1 M2 g3 f3⟩
            rw [eM M1 e1, f1, bi_s, if_neg nm6, if_neg (by decide), if_neg (by decide)]
            have em : rm32 (nI LL) (1000 : Int32) = nI (LL % 1000) := pk_rem (d := 1000) (by omega) (by omega) (by omega)
            rw [em]
          · have hqn : q < n := by
              by_cases z : q < n
              · exact z
              · exact absurd (nI_le (by omega) (by omega)) hle
            obtain ⟨y1, y2⟩ := q8_d q (by omega)
            have bo := ib_ok (show q < 8 by omega) (show 8 ≤ 2 ^ 31 by omega)
            refine ⟨nI (chH ht dr (pl kd ld bw) hd (fun i => s.testBit i) n 0 tr q), M1, M2, by rw [eC, if_neg hle, g1, bi_s, if_neg (by decide), if_neg y1, if_neg y2, if_pos bo, nI_clamp (by omega), t3 q hqn], ?_, fin M1 M2 g3 f3⟩
            rw [eM M1 e1, f1, bi_s, if_neg nm6, if_pos (nI_nn (by omega)), m_has (n := n) (by rw [f3 _ _ (by omega) (by omega) (by omega) (by omega) (by omega)]; exact e1), hb_in (by omega) hqn, br_s, if_neg (by decide), if_pos bo, nI_clamp (by omega), t4 q hqn]
        · rw [decide_eq_false hl] at g1
          refine ⟨-9, M1, M2, by rw [eC, if_neg hle, g1, bi_s, if_pos (show b2i false = 0 from rfl)], ?_, fin M1 M2 g3 f3⟩
          rw [eM M1 e1, f1, bi_s, if_pos (show nI LL = (1000000 : Int32) by rw [show LL = 1000000 by omega]; rfl)]
    · exact ⟨-2, M, M, by unfold f_X10_picture; rw [hL.n1, if_neg hz, ep, w_within10, br_s, if_pos hw, if_neg (by decide), w_within10, br_s, if_neg hw2, if_pos rfl], by unfold f_X11_picture; rw [hL.n2, if_neg hz, ep, w_within11, br_s, if_pos hw, if_neg (by decide), w_within11, br_s, if_neg hw2, if_pos rfl], h⟩
  · exact ⟨-2, M, M, by unfold f_X10_picture; rw [hL.n1, if_neg hz, ep, w_within10, br_s, if_neg hw, if_pos rfl], by unfold f_X11_picture; rw [hL.n2, if_neg hz, ep, w_within11, br_s, if_neg hw, if_pos rfl], h⟩
