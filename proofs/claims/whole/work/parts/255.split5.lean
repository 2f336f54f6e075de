theorem wm1 {v : Int32} (h : (-1 : Int32) ≤ v ∧ v ≤ (4 : Int32)) : v = -1 ∨ ∃ q, q ≤ 4 ∧ v = nI q := by
  by_cases e : v < 0
  · left
    have h1 := Int32.le_iff_toInt_le.mp h.1
    have h2 := Int32.lt_iff_toInt_lt.mp e
    apply Int32.toInt_inj.mp
    rw [show (-1 : Int32).toInt = -1 from rfl] at h1 ⊢
    rw [show (0 : Int32).toInt = 0 from rfl] at h2
    omega
  · right
    obtain ⟨q, q1, q2⟩ := nI_of2 (n := 4) (M := (4 : Int32)) rfl e h.2
    exact ⟨q, q1, q2⟩
theorem q4_d : ∀ q, q < 5 → ¬ nI q = (-1 : Int32) := by decide +kernel
theorem m1_le : ∀ m, m < 6 → ¬ nI m ≤ (-1 : Int32) := by decide +kernel
theorem s_split : St_split Inv := by
  intro M h a1 a2 a3 a4 a5
  cases hin : inR a1 0 3 with
  | false => exact ⟨-1, up2 M 0 11 0, up2 (up2 M 0 11 0) 83 0 0, by unfold f_X10_split; rw [nm_eq, q_X10_isSheet, hin, br_s, if_pos (show b2i false = 0 from rfl)], by unfold f_X11_split; rw [nm_eq, q_X11_isSheet, hin, br_s, if_pos (show b2i false = 0 from rfl)], h.flt1 0⟩
  | true =>
    obtain ⟨j, hj, rfl⟩ := inR_yes0 (by omega) hin
    cases h2 : inR a2 0 2 with
    | false => exact ⟨-2, up2 M 0 11 0, up2 (up2 M 0 11 0) 83 0 0, by unfold f_X10_split; rw [nm_eq, q_X10_isSheet, hin, br_s, if_neg (by decide), q_X10_isLane, h2, br_s, if_pos (show b2i false = 0 from rfl)], by unfold f_X11_split; rw [nm_eq, q_X11_isSheet, hin, br_s, if_neg (by decide), q_X11_isSort, h2, br_s, if_pos (show b2i false = 0 from rfl)], h.flt1 0⟩
    | true =>
      cases h4 : inR a4 0 5 with
      | false => exact ⟨-2, up2 M 0 11 0, up2 (up2 M 0 11 0) 83 0 0, by unfold f_X10_split; rw [nm_eq, q_X10_isSheet, hin, br_s, if_neg (by decide), q_X10_isLane, h2, br_s, if_neg (by decide), w10_0_5, h4, br_s, if_pos (show b2i false = 0 from rfl)], by unfold f_X11_split; rw [nm_eq, q_X11_isSheet, hin, br_s, if_neg (by decide), q_X11_isSort, h2, br_s, if_neg (by decide), w11_0_5, h4, br_s, if_pos (show b2i false = 0 from rfl)], h.flt1 0⟩
      | true =>
        obtain ⟨m, hm, rfl⟩ := inR_yes0 (by omega) h4
        by_cases h5 : (-1 : Int32) ≤ a5 ∧ a5 ≤ (4 : Int32)
        · obtain ⟨r, M1, M2, e1, e2, e3⟩ := pairs_step h (j := j) (by omega) a2 a3 (m := m) (by omega) (fun M12 => (br (f_X2_repeatBatten M12) fun r14 => (if r14 = 0 then (if nI m ≤ a5 then (some ((-9 : Int32), M12)) else (bi (f_X8_find M12) fun r16 M17 => (if r16 = 0 then (some ((-9 : Int32), M17)) else (if a5 = (-1 : Int32) then (some ((M17 76 6), M17)) else (if ib a5 5 = true then (some ((M17 81 a5.toNatClampNeg), M17)) else none))))) else (some ((-3 : Int32), M12))))) (fun M1 x12 => (br (f_X11_isTwice M1 x12 (nI m)) fun r15 => (if r15 = 0 then (bi (f_X11_findSplit M1 x12 (nI m)) fun r17 M18 => (if a5 = (-1 : Int32) then (some (r17, M18)) else (if r17 = (-9 : Int32) then (some ((-9 : Int32), M18)) else (if nI m ≤ a5 then (some ((-9 : Int32), M18)) else (if ib a5 5 = true then (some ((M18 102 a5.toNatClampNeg), M18)) else none))))) else (some ((-3 : Int32), M1))))) (fun M' n kd ld br ht dr hd tr i0 mb mh hp => by
            obtain ⟨hL, hS, h3, h4, h5', h6, hn, hm2, hj, ho, z1, z2⟩ := hp
            have n8 := hL.n8
            have R := hL.2.2.1
            have et1 : f_X2_repeatBatten M' = some (b2i (twS mb m 0 0)) := c_tw hm2 z1 (fun k hk => ⟨by have := (z2 k hk).1; omega, (z2 k hk).2.2.1⟩) m 0 FU 0 (by omega) (by have := FU_eq; omega) (by omega)
            have et2 : ∀ M1 : MM, (∀ i, M1 86 i = M' 86 i) → f_X11_isTwice M1 (nI (60 * j + i0)) (nI m) = some (b2i (twS mb m 0 0)) := fun M1 q => m_tw hm2 ho (fun k hk => ⟨by have := (z2 k hk).1; omega, by rw [q]; exact (z2 k hk).2.2.2.2.1⟩) m 0 FU 0 (by omega) (by have := FU_eq; omega) (by omega)
            have hI : Inv (up2 M' 83 0 0) := ⟨n, kd, ld, br, ht, dr, hd, tr, hL.cong (fun k i r => up2_of (by unfold relLo at r; omega)), hS, h3.cong (fun k i r => up2_of (by unfold relSh at r; omega)), h4.cong (fun k i r => up2_of (by unfold relPs at r; omega)), h5'.cong (fun k i r => up2_of (by unfold relIm at r; omega)), h6.cong (fun k i r => up2_of (by unfold relRd at r; omega))⟩
            try dsimp only
            rw [et1, br_s]
            cases htw : twS mb m 0 0 with
            | true =>
              rw [if_neg (by decide)]
              refine ⟨-3, M', up2 M' 83 0 0, rfl, fun _ _ _ => rfl, ?_, hI⟩
              rw [et2 _ (fun i => by rw [up2_of (by omega)]), br_s, htw, if_neg (by decide)]
            | false =>
              rw [if_pos (show b2i false = 0 from rfl)]
              have hinj : injM m mb := fun i j h1 h2 => (twS_no m 0 0 htw).2 i j (by omega) h1 (by omega)
              obtain ⟨cb, hcb⟩ : ∃ cb : Nat → Nat → Bool, ∀ D s, cb D s = true ↔ CAN n (pl kd ld br) dr (brS mb mh ht D m) (brS mb mh ht (D ||| s) m) hd := ⟨fun D s => @decide _ (Classical.propDecidable (CAN n (pl kd ld br) dr (brS mb mh ht D m) (brS mb mh ht (D ||| s) m) hd)), fun D s => @decide_eq_true_iff _ (Classical.propDecidable _)⟩
              obtain ⟨nx, hnx⟩ : ∃ nx : Nat → Nat → Bool, ∀ D s, nx D s = true ↔ (1 ≤ s ∧ s ≤ 2 ^ m - 1 ∧ s &&& D = 0 ∧ cb D s = true) := ⟨fun D s => decide (1 ≤ s ∧ s ≤ 2 ^ m - 1 ∧ s &&& D = 0 ∧ cb D s = true), fun D s => decide_eq_true_iff⟩
              have hMV : MV M' m mb mh := ⟨z1, fun k hk => ⟨by have := (z2 k hk).1; omega, (z2 k hk).2.1, (z2 k hk).2.2.1, (z2 k hk).2.2.2.1⟩⟩
              have mv : ∀ k, k < m → mb k < n ∧ mh k ≤ 9 := fun k hk => ⟨(z2 k hk).1, (z2 k hk).2.1⟩
              have fs : ∀ M1 : MM, (∀ k i, 83 ≤ k → M1 k i = M' k i) → _ := fun M1 q => m_fsL (M := up2 M1 83 0 0) R (by omega) (o := 60 * j + i0) hm ho hinj hcb mv (m + 1) 0 FU (fun k hk => by rw [up2_of (by omega), up2_of (by omega), q _ _ (by omega), q _ _ (by omega)]; exact (z2 k hk).2.2.2.2) (hL.2.1.cong (fun k i g r => by rw [up2_of (by unfold relLo at r; omega), q k i g])) (by omega) (by have := FU_eq; omega)
              have fin : ∀ (M1 M2 : MM), (∀ k i, ¬ (76 ≤ k ∧ k ≤ 82) → M1 k i = M' k i) → (∀ k i, k ≠ 93 → k ≠ 99 → k ≠ 101 → k ≠ 102 → (k = 90 → i < 8) → M2 k i = up2 M1 83 0 0 k i) → Inv M2 := fun M1 M2 q1 q2 => hI.scr2 (fun k i r r2 => by
                unfold scrP at r
                rw [q2 k i (by omega) (by omega) (by omega) (by omega) r2, up2_eq, up2_eq, q1 k i (by omega)])
              rcases sp_pure hm hnx with ⟨hA, hB⟩ | ⟨c, r0, c1, c2, c3, c4, ⟨c5, c6⟩, c7, ⟨c8, c9⟩, c10⟩
              · by_cases hle : nI m ≤ a5
                · obtain ⟨M2, f1, f2⟩ := (fs M' (fun _ _ _ => rfl)).1 (fun c' _ q => hB c' q)
                  have f1' : f_X11_findSplit (up2 M' 83 0 0) (nI (60 * j + i0)) (nI m) = _ := f1
                  refine ⟨-9, M', M2, by rw [if_pos hle], fun _ _ _ => rfl, ?_, fin M' M2 (fun _ _ _ => rfl) f2⟩
                  rw [et2 _ (fun i => by rw [up2_of (by omega)]), br_s, htw, if_pos (show b2i false = 0 from rfl), f1', bi_s, if_pos rfl]
                  split <;> rfl
                · obtain ⟨M1, g1, g2⟩ := c_findN hL.1 hMV R hm hinj hcb hnx hA
                  obtain ⟨M2, f1, f2⟩ := (fs M1 (fun k i hk => g2 k i (by omega))).1 (fun c' _ q => hB c' q)
                  have f1' : f_X11_findSplit (up2 M1 83 0 0) (nI (60 * j + i0)) (nI m) = _ := f1
                  refine ⟨-9, M1, M2, by rw [if_neg hle, g1, bi_s, if_pos rfl], fun k i hk => g2 k i (by omega), ?_, fin M1 M2 g2 f2⟩
                  rw [et2 _ (fun i => by rw [up2_of (by omega), g2 _ _ (by omega)]), br_s, htw, if_pos (show b2i false = 0 from rfl), f1', bi_s, if_pos rfl]
                  split <;> rfl
              · have ncn : ¬ nI c = (-9 : Int32) := n9_d c (by omega)
                by_cases hle : nI m ≤ a5
                · obtain ⟨M2, f1, f2, f3⟩ := (fs M' (fun _ _ _ => rfl)).2 c r0 (by omega) c1 (fun c' _ q => c7 c' q) c4 c8 c9
                  have f1' : f_X11_findSplit (up2 M' 83 0 0) (nI (60 * j + i0)) (nI m) = _ := f1
                  have na : ¬ a5 = (-1 : Int32) := fun z => m1_le m (by omega) (by rw [← z]; exact hle)
                  refine ⟨-9, M', M2, by rw [if_pos hle], fun _ _ _ => rfl, ?_, fin M' M2 (fun _ _ _ => rfl) f3⟩
                  rw [et2 _ (fun i => by rw [up2_of (by omega)]), br_s, htw, if_pos (show b2i false = 0 from rfl), f1', bi_s, if_neg na, if_neg ncn, if_pos hle]
                · obtain ⟨M1, g1, g2, g3, g4⟩ := c_findS hL.1 hMV R hm hinj hcb hnx c2 c3 c4 c5 c6
                  obtain ⟨M2, f1, f2, f3⟩ := (fs M1 (fun k i hk => g4 k i (by omega))).2 c r0 (by omega) c1 (fun c' _ q => c7 c' q) c4 c8 c9
                  have f1' : f_X11_findSplit (up2 M1 83 0 0) (nI (60 * j + i0)) (nI m) = _ := f1
                  rcases wm1 h5 with rfl | ⟨q, q1, rfl⟩
                  · refine ⟨nI c, M1, M2, by rw [if_neg hle, g1, bi_s, if_neg (by decide), if_pos rfl, g2], fun k i hk => g4 k i (by omega), ?_, fin M1 M2 g4 f3⟩
                    rw [et2 _ (fun i => by rw [up2_of (by omega), g4 _ _ (by omega)]), br_s, htw, if_pos (show b2i false = 0 from rfl), f1', bi_s, if_pos rfl]
                  · have hqm : q < m := by
                      by_cases e : q < m
                      · exact e
                      · exact absurd (nI_le (by omega) (by omega)) hle
                    have nq := q4_d q (by omega)
                    refine ⟨nI (rdD c m r0 q), M1, M2, by rw [if_neg hle, g1, bi_s, if_neg (by decide), if_neg nq, if_pos (ib_ok (by omega) (by omega)), nI_clamp (by omega), g3 q hqm, c10], fun k i hk => g4 k i (by omega), ?_, fin M1 M2 g4 f3⟩
                    rw [et2 _ (fun i => by rw [up2_of (by omega), g4 _ _ (by omega)]), br_s, htw, if_pos (show b2i false = 0 from rfl), f1', bi_s, if_neg nq, if_neg ncn, if_neg hle, if_pos (ib_ok (by omega) (by omega)), nI_clamp (by omega), f2 q hqm])
          refine ⟨r, M1, M2, ?_, ?_, e3⟩
          · unfold f_X10_split
            rw [nm_eq, q_X10_isSheet, hin, br_s, if_neg (by decide), q_X10_isLane, h2, br_s, if_neg (by decide), w10_0_5, h4, br_s, if_neg (by decide), w_within10, br_s, if_pos h5, if_neg (by decide), if_pos (ib_ok (by omega) (by omega)), nI_clamp (by omega)]
            exact e1
          · unfold f_X11_split
            rw [nm_eq, q_X11_isSheet, hin, br_s, if_neg (by decide), q_X11_isSort, h2, br_s, if_neg (by decide), w11_0_5, h4, br_s, if_neg (by decide), w_within11, br_s, if_pos h5, if_neg (by decide)]
            exact e2
        · refine ⟨-2, up2 M 0 11 0, up2 (up2 M 0 11 0) 83 0 0, ?_, ?_, h.flt1 0⟩
          · unfold f_X10_split
            rw [nm_eq, q_X10_isSheet, hin, br_s, if_neg (by decide), q_X10_isLane, h2, br_s, if_neg (by decide), w10_0_5, h4, br_s, if_neg (by decide), w_within10, br_s, if_neg h5, if_pos rfl]
          · unfold f_X11_split
            rw [nm_eq, q_X11_isSheet, hin, br_s, if_neg (by decide), q_X11_isSort, h2, br_s, if_neg (by decide), w11_0_5, h4, br_s, if_neg (by decide), w_within11, br_s, if_neg h5, if_pos rfl]
