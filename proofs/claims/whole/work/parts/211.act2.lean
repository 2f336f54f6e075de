theorem Inv.scr2 {M M' : MM} (h : Inv M) (a : ∀ k j, ¬ scrP k j → (k = 90 → j < 8) → M' k j = M k j) : Inv M' := by
  obtain ⟨n, kd, ld, br, ht, dr, hd, tr, h1, h2, h3, h4, h5, h6⟩ := h
  refine ⟨n, kd, ld, br, ht, dr, hd, tr, h1.cong (fun k j r => a k j ?_ ?_), h2.cong (fun k j r => a k j ?_ ?_), h3.cong (fun k j r => a k j ?_ ?_), h4.cong (fun k j r => a k j ?_ ?_), h5.cong (fun k j r => a k j ?_ ?_), h6.cong (fun k j r => a k j ?_ ?_)⟩
  · unfold relLo at r; unfold scrP; omega
  · unfold relLo at r; omega
  · unfold relMs at r; unfold scrP; omega
  · unfold relMs at r; omega
  · unfold relSh at r; unfold scrP; omega
  · unfold relSh at r; omega
  · unfold relPs at r; unfold scrP; omega
  · unfold relPs at r; omega
  · unfold relIm at r; unfold scrP; omega
  · unfold relIm at r; omega
  · unfold relRd at r; unfold scrP; omega
  · unfold relRd at r; omega
theorem m_keepL : ∀ (d i fuel : Nat) (M : MM), i + d = 8 → d < fuel → ∃ M' : MM, g_X11_keepHeights_2 fuel M (nI i) = some M' ∧ (∀ j, i ≤ j → j < 8 → M' 99 j = M 90 j) ∧ ∀ k j, ¬ (k = 99 ∧ i ≤ j ∧ j < 8) → M' k j = M k j := by
  intro d
  induction d with
  | zero =>
    intro i fuel M h1 h2
    obtain ⟨f, rfl⟩ : ∃ f, fuel = f + 1 := ⟨fuel - 1, by omega⟩
    obtain rfl : i = 8 := by omega
    rw [g_X11_keepHeights_2, if_pos (show (8 : Int32) ≤ nI 8 by decide)]
    exact ⟨M, rfl, fun j g1 g2 => by omega, fun k j _ => rfl⟩
  | succ d ih =>
    intro i fuel M h1 h2
    obtain ⟨f, rfl⟩ : ∃ f, fuel = f + 1 := ⟨fuel - 1, by omega⟩
    have hi : i < 8 := by omega
    rw [g_X11_keepHeights_2, if_neg (show ¬ (8 : Int32) ≤ nI i from nI_ge (b := 8) hi (by omega)), if_pos (ib_ok hi (by omega)), if_pos (ib_ok hi (by omega)), nI_clamp (by omega), nm_eq, show nI i + (1 : Int32) = nI (i + 1) from nI_1 i]
    obtain ⟨M', g0, g1, g2⟩ := ih (i + 1) f (up2 M 99 i (M 90 i)) (by omega) (by omega)
    refine ⟨M', g0, fun j j1 j2 => ?_, fun k j r => ?_⟩
    · by_cases e : j = i
      · subst e
        rw [g2 99 j (by omega), up2_at]
      · rw [g1 j (by omega) j2, up2_of (by omega)]
    · rw [g2 k j (by omega), up2_of (by omega)]
theorem m_putL : ∀ (d i fuel : Nat) (M : MM), i + d = 8 → d < fuel → ∃ M' : MM, g_X11_putHeights_2 fuel M (nI i) = some M' ∧ (∀ j, i ≤ j → j < 8 → M' 90 j = M 99 j) ∧ ∀ k j, ¬ (k = 90 ∧ i ≤ j ∧ j < 8) → M' k j = M k j := by
  intro d
  induction d with
  | zero =>
    intro i fuel M h1 h2
    obtain ⟨f, rfl⟩ : ∃ f, fuel = f + 1 := ⟨fuel - 1, by omega⟩
    obtain rfl : i = 8 := by omega
    rw [g_X11_putHeights_2, if_pos (show (8 : Int32) ≤ nI 8 by decide)]
    exact ⟨M, rfl, fun j g1 g2 => by omega, fun k j _ => rfl⟩
  | succ d ih =>
    intro i fuel M h1 h2
    obtain ⟨f, rfl⟩ : ∃ f, fuel = f + 1 := ⟨fuel - 1, by omega⟩
    have hi : i < 8 := by omega
    rw [g_X11_putHeights_2, if_neg (show ¬ (8 : Int32) ≤ nI i from nI_ge (b := 8) hi (by omega)), if_pos (ib_ok hi (by omega)), if_pos (ib_ok hi (by omega)), nI_clamp (by omega), nm_eq, show nI i + (1 : Int32) = nI (i + 1) from nI_1 i]
    obtain ⟨M', g0, g1, g2⟩ := ih (i + 1) f (up2 M 90 i (M 99 i)) (by omega) (by omega)
    refine ⟨M', g0, fun j j1 j2 => ?_, fun k j r => ?_⟩
    · by_cases e : j = i
      · subst e
        rw [g2 90 j (by omega), up2_at]
      · rw [g1 j (by omega) j2, up2_of (by omega)]
    · rw [g2 k j (by omega), up2_of (by omega)]
theorem m_keepH (M : MM) : ∃ M' : MM, f_X11_keepHeights M = some M' ∧ (∀ j, j < 8 → M' 99 j = M 90 j) ∧ ∀ k j, k ≠ 99 → M' k j = M k j := by
  obtain ⟨M', g0, g1, g2⟩ := m_keepL 8 0 FU M (by omega) (by have := FU_eq; omega)
  exact ⟨M', g0, fun j hj => g1 j (by omega) hj, fun k j r => g2 k j (by omega)⟩
theorem m_putH (M : MM) : ∃ M' : MM, f_X11_putHeights M = some M' ∧ (∀ j, j < 8 → M' 90 j = M 99 j) ∧ ∀ k j, k ≠ 90 → M' k j = M k j := by
  obtain ⟨M', g0, g1, g2⟩ := m_putL 8 0 FU M (by omega) (by have := FU_eq; omega)
  exact ⟨M', g0, fun j hj => g1 j (by omega) hj, fun k j r => g2 k j (by omega)⟩
theorem m_goAct {n : Nat} {kd ld br ht dr : Nat → Nat} {hd tr : Nat} {M : MM} (h : MLo M n kd ld br ht dr hd tr) (R : Rng n kd ld br ht dr hd tr) (hn : 1 ≤ n) {m w o : Nat} (hm : m ≤ 20) (ho : o + 2 * m ≤ 240) {mb mh : Nat → Nat} (mv : ∀ k, k < m → mb k < n ∧ mh k ≤ 9) (hw : FW n (pl kd ld br) dr mb mh ht m hd w) (h2 : ∀ k, k < m → M 86 (o + 2 * k) = nI (mb k) ∧ M 86 (o + 2 * k + 1) = nI (mh k)) : ∃ M' : MM, f_X11_goAct M (nI o) (nI m) = some (if w = m then -9 else nI w, M') ∧ (∀ k j, k ≠ 90 → k ≠ 93 → ¬ (k = 83 ∧ (j = 28 ∨ j = 29)) → M' k j = M k j) ∧ MLo M' n kd ld br (apM mb mh ht w) dr hd tr ∧ (w = m → M' 83 28 = nI (btS mb mh ht m) ∧ M' 83 29 = nI (efS (pl kd ld br) mb mh ht m)) := by
  unfold f_X11_goAct
  rw [nm_eq, nm_eq]
  have U : ∀ k j, ¬ (k = 83 ∧ (j = 28 ∨ j = 29)) → up2 (up2 M 83 28 0) 83 29 0 k j = M k j := fun k j r => by rw [up2_of (by omega), up2_of (by omega)]
  obtain ⟨M', e1, e2, e3, e4⟩ := m_goL R hn hm ho mv hw w 0 FU (up2 (up2 M 83 28 0) 83 29 0) (h.cong (fun k j _ r => U k j (by unfold relLo at r; omega))) (fun k hk => by rw [U _ _ (by omega), U _ _ (by omega)]; exact h2 k hk) (by rw [up2_of (by omega), up2_at]; rfl) (by rw [up2_at]; rfl) (by omega) (by have := hw.1; have := FU_eq; omega)
  exact ⟨M', e1, fun k j r1 r2 r3 => by rw [e2 k j r1 r2 r3, U k j r3], e3, e4⟩
theorem n9_d : ∀ w, w < 21 → ¬ nI w = (-9 : Int32) := by decide +kernel
theorem w10_d : ∀ q, q < 18 → (nI q < (10 : Int32) ↔ q < 10) ∧ (nI q = 0 ↔ q = 0) ∧ (nI q = (1 : Int32) ↔ q = 1) ∧ (nI q = (2 : Int32) ↔ q = 2) := by decide +kernel
theorem Rng.hts {n : Nat} {kd ld br ht dr ht' : Nat → Nat} {hd tr hd' : Nat} (R : Rng n kd ld br ht dr hd tr) (h : ∀ j, j < 8 → ht' j ≤ 9) (h2 : hd' ≤ 6) : Rng n kd ld br ht' dr hd' tr := ⟨R.1, fun j hj => ⟨(R.2.1 j hj).1, (R.2.1 j hj).2.1, (R.2.1 j hj).2.2.1, h j hj, (R.2.1 j hj).2.2.2.2⟩, h2, R.2.2.2⟩
/-- what the reference tells of an act -/
theorem m_tellA {n : Nat} {kd ld br a dr : Nat → Nat} {hd tr : Nat} {M : MM} (h : MLo M n kd ld br a dr hd tr) (R : Rng n kd ld br a dr hd tr) {q : Nat} (hq : q < 18) : f_X11_tellAct M (nI q) = some (if q < 10 then (if q = 0 then M 83 28 else if q = 2 then M 83 29 else snS (fun j => a j - dr j) n 0 0 tr) else if q - 10 < n then nI (a (q - 10)) else -9) := by
  obtain ⟨d1, d2, d3, d4⟩ := w10_d q hq
  have n8 := R.1
  unfold f_X11_tellAct
  by_cases g : q < 10
  · rw [if_pos (d1.mpr g), if_pos g]
    by_cases g2 : q = 0
    · rw [if_pos (d2.mpr g2), if_pos g2]
    · rw [if_neg (fun z => g2 (d2.mp z)), if_neg g2]
      by_cases g3 : q = 2
      · rw [if_pos (d4.mpr g3), if_pos g3]
      · rw [if_neg (fun z => g3 (d4.mp z)), if_neg g3, m_seenNow h R, br_s]
  · rw [if_neg (fun z => g (d1.mp z)), if_neg g, show nI q - (10 : Int32) = nI (q - 10) from pk_sub (b := 10) (by omega), m_has h.1, br_s]
    by_cases g4 : q - 10 < n
    · rw [hb_in (by omega) g4, if_neg (by decide), if_pos g4, if_pos (ib_ok (by omega) (by omega)), nI_clamp (by omega), h.2.2.2.2.2.1 _ (by omega)]
    · have : hb n (nI (q - 10)) = false := by
        cases z : hb n (nI (q - 10)) with
        | false => rfl
        | true =>
          obtain ⟨j, j1, j2⟩ := hb_yes (by omega) z
          have := nI_inj (by omega) (by omega) j2
          omega
      rw [this, if_pos (show b2i false = 0 from rfl), if_neg g4]
theorem s_act : St_act Inv := by
  intro M h a1 a2 a3 a4 a5
  cases hin : inR a1 0 3 with
  | false => exact ⟨-1, up2 M 0 11 0, up2 (up2 M 0 11 0) 83 0 0, by simp [f_X10_act, nm_eq, q_X10_isSheet, hin, br_s, b2i0], by simp [f_X11_act, nm_eq, q_X11_isSheet, hin, br_s, b2i0], h.flt1 0⟩
  | true =>
    obtain ⟨j, hj, rfl⟩ := inR_yes0 (by omega) hin
    cases h2 : inR a2 0 2 with
    | false => exact ⟨-2, up2 M 0 11 0, up2 (up2 M 0 11 0) 83 0 0, by simp [f_X10_act, nm_eq, q_X10_isSheet, q_X10_isLane, w10_10_17, hin, h2, br_s, b2i0], by simp [f_X11_act, nm_eq, q_X11_isSheet, q_X11_isSort, hin, h2, br_s, b2i0], h.flt1 0⟩
    | true =>
      cases h4 : inR a4 0 20 with
      | false => exact ⟨-2, up2 M 0 11 0, up2 (up2 M 0 11 0) 83 0 0, by simp [f_X10_act, nm_eq, q_X10_isSheet, q_X10_isLane, w10_0_20, w10_10_17, hin, h2, h4, br_s, b2i0], by simp [f_X11_act, nm_eq, q_X11_isSheet, q_X11_isSort, w11_0_20, hin, h2, h4, br_s, b2i0], h.flt1 0⟩
      | true =>
        obtain ⟨m, hm, rfl⟩ := inR_yes0 (by omega) h4
        cases hA : inR a5 0 3 || inR a5 10 17 with
        | false =>
          simp only [Bool.or_eq_false_iff] at hA
          exact ⟨-2, up2 M 0 11 0, up2 (up2 M 0 11 0) 83 0 0, by simp [f_X10_act, nm_eq, q_X10_isSheet, q_X10_isLane, w10_0_20, w10_10_17, w10_0_3, hin, h2, h4, hA.1, hA.2, br_s, b2i0], by simp [f_X11_act, nm_eq, q_X11_isSheet, q_X11_isSort, w11_0_20, w11_10_17, w11_0_3, hin, h2, h4, hA.1, hA.2, br_s, b2i0], h.flt1 0⟩
        | true =>
          obtain ⟨q, q1, q2, rfl, q3⟩ : ∃ q, q < 18 ∧ (q ≤ 3 ∨ 10 ≤ q) ∧ a5 = nI q ∧ inR a5 10 17 = decide (10 ≤ q) := by
            cases z : inR a5 10 17 with
            | true =>
              obtain ⟨q, g1, g2, rfl⟩ := inR_y (by omega) (by omega) z
              exact ⟨q, by omega, by omega, rfl, by simp [g1]⟩
            | false =>
              rw [z, Bool.or_false] at hA
              obtain ⟨q, g2, rfl⟩ := inR_yes0 (by omega) hA
              exact ⟨q, by omega, by omega, rfl, by simp; omega⟩
          obtain ⟨r, M1, M2, e1, e2, e3⟩ := pairs_step h (j := j) (by omega) a2 a3 (m := m) (by omega) (fun M14 => (br (f_X0_run M14 (M14 23 4)) fun M17 => (if nI q = (1 : Int32) then (some ((M17 68 4), M17)) else (if (M17 68 4) = (-9 : Int32) then (if b2i (inR (nI q) 10 17) = 0 then (if nI q = 0 then (some ((M17 68 2), M17)) else (if nI q = (2 : Int32) then (some ((M17 68 3), M17)) else (br (f_X1_seenAt M17 70) fun r19 => (some (r19, M17))))) else (br (f_X1_has M17 (nI q - (10 : Int32))) fun r21 => (if r21 = 0 then (some ((-9 : Int32), M17)) else (if ib (nI q - (10 : Int32)) 8 = true then (some ((M17 70 (nI q - (10 : Int32)).toNatClampNeg), M17)) else none)))) else (some (((-100 : Int32) - (M17 68 4)), M17)))))) (fun M x14 => (br (f_X11_keepHeights M) fun M18 => (bi (f_X11_goAct M18 x14 (nI m)) fun r20 M21 => (br (f_X11_tellAct M21 (nI q)) fun r23 => (br (f_X11_putHeights M21) fun M26 => (if nI q = (1 : Int32) then (some (r20, M26)) else (if r20 = (-9 : Int32) then (some (r23, M26)) else (some (((-100 : Int32) - r20), M26)))))))))
            (fun M' n kd ld br ht dr hd tr i0 mb mh hp => by
            obtain ⟨hL, hS, h3, h4, h5, h6, hn, hm2, hj, ho, z1, z2⟩ := hp
            have n8 := hL.n8
            have R := hL.2.2.1
            obtain ⟨d1, d2, d3, d4⟩ := w10_d q q1
            obtain ⟨w, hw⟩ := FW_ex n (pl kd ld br) dr mb mh ht hd m
            obtain ⟨M1, c1, c2, c3, c4⟩ := c_run hL.1 R hm2 (H := hd) (by have := hL.a6; omega) (fun k hk => ⟨by have := (z2 k hk).1; omega, (z2 k hk).2.1⟩) hw z1 (fun k hk => ⟨(z2 k hk).2.2.1, (z2 k hk).2.2.2.1⟩)
            have U1 : ∀ k i, 83 ≤ k → M1 k i = M' k i := fun k i hk => c2 k i (by omega)
            obtain ⟨Mk, k0, k1, k2⟩ := m_keepH (up2 M1 83 0 0)
            have hMk : MLo Mk n kd ld br ht dr hd tr := hL.2.1.cong (fun k i g r => by rw [k2 k i (by unfold relLo at r; omega), up2_of (by unfold relLo at r; omega), U1 k i g])
            obtain ⟨Ma, g0, g1, g2, g3⟩ := m_goAct (M := Mk) (o := 60 * j + i0) hMk R (by omega) hm2 ho (fun k hk => ⟨(z2 k hk).1, (z2 k hk).2.1⟩) hw (fun k hk => by rw [k2 _ _ (by omega), k2 _ _ (by omega), up2_of (by omega), up2_of (by omega), U1 _ _ (by omega), U1 _ _ (by omega)]; exact (z2 k hk).2.2.2.2)
            have a9 : ∀ j, j < 8 → apM mb mh ht w j ≤ 9 := apM_9 w (fun j hj => (hL.rg hj).2.2.2.1) (fun j hj => (z2 j (by have := hw.1; omega)).2.1)
            have Ra := R.hts a9 hL.a6
            have et := m_tellA (M := Ma) g2 Ra q1
            obtain ⟨Mp, p0, p1, p2⟩ := m_putH Ma
            have hI : Inv Mp := by
              refine Inv.scr2 (M := up2 M' 83 0 0) ⟨n, kd, ld, br, ht, dr, hd, tr, hL.cong (fun k i r => up2_of (by unfold relLo at r; omega)), hS, h3.cong (fun k i r => up2_of (by unfold relSh at r; omega)), h4.cong (fun k i r => up2_of (by unfold relPs at r; omega)), h5.cong (fun k i r => up2_of (by unfold relIm at r; omega)), h6.cong (fun k i r => up2_of (by unfold relRd at r; omega))⟩ (fun k i r r2 => ?_)
              unfold scrP at r
              by_cases e : k = 90
              · subst e
                rw [p1 i (r2 rfl), g1 99 i (by omega) (by omega) (by omega), k1 i (r2 rfl), up2_of (by omega), up2_of (by omega), U1 _ _ (by omega)]
              · rw [p2 k i e, g1 k i e (by omega) (by omega), k2 k i (by omega), up2_eq, up2_eq, c2 k i (by omega)]
            try dsimp only
            rw [hL.aC, c1, br_s]
            have em : ∀ x : Int32, (x = (if w = m then -9 else nI w)) → (x = (-9 : Int32)) = (w = m) := fun x hx => by
              rw [hx]
              by_cases e : w = m
              · simp [e]
              · simp [e, n9_d w (by have := hw.1; omega)]
            have hall : ∀ x : Int32, (if nI q = (1 : Int32) then (some ((M1 68 4), M1)) else (if (M1 68 4) = (-9 : Int32) then (if b2i (inR (nI q) 10 17) = 0 then (if nI q = 0 then (some ((M1 68 2), M1)) else (if nI q = (2 : Int32) then (some ((M1 68 3), M1)) else (CFlyFloorLaw_law_r8989_f8e51d.br (f_X1_seenAt M1 70) fun r19 => (some (r19, M1))))) else (CFlyFloorLaw_law_r8989_f8e51d.br (f_X1_has M1 (nI q - (10 : Int32))) fun r21 => (if r21 = 0 then (some ((-9 : Int32), M1)) else (if ib (nI q - (10 : Int32)) 8 = true then (some ((M1 70 (nI q - (10 : Int32)).toNatClampNeg), M1)) else none)))) else (some (((-100 : Int32) - (M1 68 4)), M1)))) = some (x, M1) → (if nI q = (1 : Int32) then (some ((if w = m then -9 else nI w), Mp)) else (if (if w = m then -9 else nI w) = (-9 : Int32) then (some ((if q < 10 then (if q = 0 then Ma 83 28 else if q = 2 then Ma 83 29 else snS (fun j => apM mb mh ht w j - dr j) n 0 0 tr) else if q - 10 < n then nI (apM mb mh ht w (q - 10)) else -9), Mp)) else (some (((-100 : Int32) - (if w = m then -9 else nI w)), Mp)))) = some (x, Mp) → ∃ r M1_1 M2, (if nI q = (1 : Int32) then (some ((M1 68 4), M1)) else (if (M1 68 4) = (-9 : Int32) then (if b2i (inR (nI q) 10 17) = 0 then (if nI q = 0 then (some ((M1 68 2), M1)) else (if nI q = (2 : Int32) then (some ((M1 68 3), M1)) else (CFlyFloorLaw_law_r8989_f8e51d.br (f_X1_seenAt M1 70) fun r19 => (some (r19, M1))))) else (CFlyFloorLaw_law_r8989_f8e51d.br (f_X1_has M1 (nI q - (10 : Int32))) fun r21 => (if r21 = 0 then (some ((-9 : Int32), M1)) else (if ib (nI q - (10 : Int32)) 8 = true then (some ((M1 70 (nI q - (10 : Int32)).toNatClampNeg), M1)) else none)))) else (some (((-100 : Int32) - (M1 68 4)), M1)))) = some (r, M1_1) ∧ (∀ k i, 83 ≤ k → M1_1 k i = M' k i) ∧ (CFlyFloorLaw_law_r8989_f8e51d.br (f_X11_keepHeights (up2 M1_1 83 0 0)) fun M18 => (bi (f_X11_goAct M18 (nI (60 * j + i0)) (nI m)) fun r20 M21 => (CFlyFloorLaw_law_r8989_f8e51d.br (f_X11_tellAct M21 (nI q)) fun r23 => (CFlyFloorLaw_law_r8989_f8e51d.br (f_X11_putHeights M21) fun M26 => (if nI q = (1 : Int32) then (some (r20, M26)) else (if r20 = (-9 : Int32) then (some (r23, M26)) else (some (((-100 : Int32) - r20), M26)))))))) = some (r, M2) ∧ Inv M2 := fun x x1 x2 => ⟨x, M1, Mp, x1, U1, by rw [k0, br_s, g0, bi_s, et, br_s, p0, br_s]; exact x2, hI⟩
            have em1 : (M1 68 4 = (-9 : Int32)) ↔ w = m := by rw [em _ c3]
            have em2 : ((if w = m then -9 else nI w) = (-9 : Int32)) ↔ w = m := by rw [em _ rfl]
            have v6 : (b2i (inR (nI q) 10 17) = 0) ↔ q < 10 := by
              rw [q3, b2i0]
              simp
            by_cases qa : q = 1
            · refine hall (if w = m then -9 else nI w) ?_ ?_
              · rw [if_pos (d3.mpr qa), c3]
              · rw [if_pos (d3.mpr qa)]
            · by_cases qb : w = m
              · obtain ⟨t1, t2, t3⟩ := c4 qb
                obtain ⟨t4, t5⟩ := g3 qb
                have hC1 : CLo M1 n kd ld br ht dr hd tr := hL.1.cong (fun k i g r => c2 k i (by unfold relLo at r; omega))
                by_cases qc : q < 10
                · by_cases qd : q = 0
                  · refine hall (nI (btS mb mh ht m)) ?_ ?_
                    · rw [if_neg (fun z => qa (d3.mp z)), if_pos (em1.mpr qb), if_pos (v6.mpr qc), if_pos (d2.mpr qd), t1]
                    · rw [if_neg (fun z => qa (d3.mp z)), if_pos (em2.mpr qb), if_pos qc, if_pos qd, t4]
                  · by_cases qe : q = 2
                    · refine hall (nI (efS (pl kd ld br) mb mh ht m)) ?_ ?_
                      · rw [if_neg (fun z => qa (d3.mp z)), if_pos (em1.mpr qb), if_pos (v6.mpr qc), if_neg (fun z => qd (d2.mp z)), if_pos (d4.mpr qe), t2]
                      · rw [if_neg (fun z => qa (d3.mp z)), if_pos (em2.mpr qb), if_pos qc, if_neg qd, if_pos qe, t5]
                    · refine hall (snS (fun j => apM mb mh ht w j - dr j) n 0 0 tr) ?_ ?_
                      · rw [if_neg (fun z => qa (d3.mp z)), if_pos (em1.mpr qb), if_pos (v6.mpr qc), if_neg (fun z => qd (d2.mp z)), if_neg (fun z => qe (d4.mp z)), c_seenAt hC1 R (k1 := 70) (a := apM mb mh ht w) (fun j hj => ⟨by rw [t3 j hj, qb], a9 j hj⟩), br_s]
                      · rw [if_neg (fun z => qa (d3.mp z)), if_pos (em2.mpr qb), if_pos qc, if_neg qd, if_neg qe]
                · refine hall (if q - 10 < n then nI (apM mb mh ht w (q - 10)) else -9) ?_ ?_
                  · rw [if_neg (fun z => qa (d3.mp z)), if_pos (em1.mpr qb), if_neg (fun z => qc (v6.mp z)), show nI q - (10 : Int32) = nI (q - 10) from pk_sub (b := 10) (by omega), c_has hC1.1, br_s]
                    by_cases g4 : q - 10 < n
                    · rw [hb_in (by omega) g4, if_neg (by decide), if_pos g4, if_pos (ib_ok (by omega) (by omega)), nI_clamp (by omega), t3 _ (by omega), qb]
                    · have : hb n (nI (q - 10)) = false := by
                        cases z : hb n (nI (q - 10)) with
                        | false => rfl
                        | true =>
                          obtain ⟨j, j1, j2⟩ := hb_yes (by omega) z
                          have := nI_inj (by omega) (by omega) j2
                          omega
                      rw [this, if_pos (show b2i false = 0 from rfl), if_neg g4]
                  · rw [if_neg (fun z => qa (d3.mp z)), if_pos (em2.mpr qb), if_neg qc]
              · refine hall (-100 - nI w) ?_ ?_
                · rw [if_neg (fun z => qa (d3.mp z)), if_neg (fun z => qb (em1.mp z)), c3, if_neg qb]
                · rw [if_neg (fun z => qa (d3.mp z)), if_neg (fun z => qb (em2.mp z)), if_neg qb])
          have hA2 : inR (nI q) 0 3 = !(inR (nI q) 10 17) := by
            rw [q3]
            cases z : inR (nI q) 0 3 with
            | true =>
              obtain ⟨q', g2, g3⟩ := inR_yes0 (by omega) z
              have := nI_inj (by omega) (by omega) g3
              simp; omega
            | false =>
              rw [z, Bool.false_or, q3] at hA
              simp at hA
              simp; omega
          refine ⟨r, M1, M2, ?_, ?_, e3⟩
          · unfold f_X10_act g_X10_act_61
            rw [nm_eq, q_X10_isSheet, hin, br_s, if_neg (by decide), w10_10_17, br_s, q_X10_isLane, h2, br_s, if_neg (by decide), w10_0_20, h4, br_s, if_neg (by decide), w10_0_3, br_s, hA2, if_pos (ib_ok (by omega) (by omega)), nI_clamp (by omega)]
            cases z : inR (nI q) 10 17 with
            | true => rw [if_neg (by decide)]; rw [z] at e1; exact e1
            | false => rw [if_pos (show b2i false = 0 from rfl), if_neg (by decide)]; rw [z] at e1; exact e1
          · unfold f_X11_act g_X11_act_57
            rw [nm_eq, q_X11_isSheet, hin, br_s, if_neg (by decide), q_X11_isSort, h2, br_s, if_neg (by decide), w11_0_20, h4, br_s, if_neg (by decide), w11_0_3, br_s, w11_10_17, br_s, hA2]
            cases z : inR (nI q) 10 17 with
            | true => rw [if_pos (show b2i (!true) = 0 from rfl), if_neg (by decide)]; exact e2
            | false => rw [if_neg (by decide)]; exact e2
