theorem foS0g {hr lane v1 v2 v3 : Int32} {L : Nat} (hL : L ≤ 60) (h : foS hr lane L v1 v2 v3 = 0) : ∃ i0 N, v2 = nI i0 ∧ v3 = nI N ∧ i0 + N ≤ L := by
  unfold foS at h
  split at h
  · exact absurd h (by decide)
  · split at h
    · split at h
      · rename_i g0
        split at h
        · exact absurd h (by decide)
        · rename_i g1
          split at h
          · exact absurd h (by decide)
          · rename_i g2
            split at h
            · exact absurd h (by decide)
            · rename_i g3
              obtain ⟨i0, h1, h2⟩ := nI_of g1
              subst h2
              have h3 : i0 ≤ L := by
                have := Int32.not_lt.mp g2
                exact (nI_leI h1 (by omega)).mp this
              rw [pk_sub h3] at g3
              obtain ⟨N, h4, h5⟩ := nI_of (Int32.not_lt.mpr g0)
              subst h5
              refine ⟨i0, N, rfl, rfl, ?_⟩
              have := (nI_leI h4 (by omega)).mp (Int32.not_lt.mp g3)
              omega
      · exact absurd h (by decide)
    · exact absurd h (by decide)
theorem n9b_d : ∀ w, w < 61 → ¬ nI w = (-9 : Int32) := by decide +kernel
theorem c_keptL (M : MM) : ∃ M' : MM, g_X10_loft_114 FU M (0 : Int32) = some (M 20 3, M') ∧ M' 19 0 = 0 ∧ M' 19 1 = 0 ∧ ∀ k j, k ≠ 19 → M' k j = M k j := by
  refine ⟨up2 (up2 M 19 0 0) 19 1 0, ?_, by rw [up2_of (by omega), up2_at], up2_at _ _ _ _, fun k j r => by rw [up2_of (by omega), up2_of (by omega)]⟩
  rw [show FU = 6997 + 1 + 1 + 1 from rfl, g_X10_loft_114, if_neg (by decide), if_pos (by decide), nm_eq, g_X10_loft_114, if_neg (by decide), if_pos (by decide), nm_eq, g_X10_loft_114, if_pos (by decide)]
  rfl
theorem m_takeL {n : Nat} (hn : n ≤ 8) : ∀ (d b fuel : Nat) (M : MM), M 83 5 = nI n → b + d = n → d < fuel → ∃ M' : MM, g_X11_takeLoft_34 fuel M (nI b) = some M' ∧ (∀ x, b ≤ x → x < n → M' 87 x = M 92 (5 * x) ∧ M' 88 x = M 92 (5 * x + 1) ∧ M' 89 x = M 92 (5 * x + 2) ∧ M' 90 x = M 92 (5 * x + 3) ∧ M' 91 x = M 92 (5 * x + 4)) ∧ (M' 83 21 = 0 ∧ M' 95 0 = 0 ∧ M' 95 1 = 0 ∧ M' 83 35 = 0) ∧ ∀ k j, ¬ (87 ≤ k ∧ k ≤ 91 ∧ b ≤ j ∧ j < n) → ¬ (k = 83 ∧ (j = 21 ∨ j = 35)) → k ≠ 95 → M' k j = M k j := by
  intro d
  induction d with
  | zero =>
    intro b fuel M h1 h2 h3
    obtain ⟨f, rfl⟩ : ∃ f, fuel = f + 1 := ⟨fuel - 1, by omega⟩
    obtain rfl : b = n := by omega
    rw [g_X11_takeLoft_34, h1, if_pos (nI_le (Nat.le_refl b) (by omega)), nm_eq, if_pos (by decide), nm_eq, if_pos (by decide), nm_eq, nm_eq]
    refine ⟨_, rfl, fun x g1 g2 => by omega, ⟨?_, ?_, ?_, up2_at _ _ _ _⟩, fun k j r1 r2 r3 => ?_⟩
    · rw [up2_of (by omega), up2_of (by omega), up2_of (by omega), up2_at]
    · show up2 (up2 (up2 (up2 M 83 21 0) 95 0 0) 95 1 0) 83 35 0 95 0 = 0
      rw [up2_of (by omega), up2_of (by omega), up2_at]
    · show up2 (up2 (up2 (up2 M 83 21 0) 95 0 0) 95 1 0) 83 35 0 95 1 = 0
      rw [up2_of (by omega), up2_at]
    · rw [up2_of (by omega), up2_of (by omega), up2_of (by omega), up2_of (by omega)]
  | succ d ih =>
    intro b fuel M h1 h2 h3
    obtain ⟨f, rfl⟩ : ∃ f, fuel = f + 1 := ⟨fuel - 1, by omega⟩
    have bo := ib_ok (show b < 8 by omega) (show 8 ≤ 2 ^ 31 by omega)
    have cl := nI_clamp (show b < 2 ^ 31 by omega)
    have e5 : (5 : Int32) * nI b = nI (5 * b) := pk_mul 5 b
    have ik : ∀ q : Nat, q ≤ 4 → ib (nI (5 * b + q)) 40 = true ∧ (nI (5 * b + q)).toNatClampNeg = 5 * b + q := fun q hq => ⟨ib_ok (by omega) (by omega), nI_clamp (by omega)⟩
    rw [g_X11_takeLoft_34, h1, if_neg (nI_ge (by omega) (by omega)), e5]
    simp only [nm_eq]
    rw [show nI (5 * b) + (1 : Int32) = nI (5 * b + 1) from nI_add _ 1, show nI (5 * b) + (2 : Int32) = nI (5 * b + 2) from nI_add _ 2, show nI (5 * b) + (3 : Int32) = nI (5 * b + 3) from nI_add _ 3, show nI (5 * b) + (4 : Int32) = nI (5 * b + 4) from nI_add _ 4]
    rw [if_pos (show ib (nI (5 * b)) 40 = true from (ik 0 (by omega)).1), if_pos bo, if_pos (ik 1 (by omega)).1, if_pos bo, if_pos (ik 2 (by omega)).1, if_pos bo, if_pos (ik 3 (by omega)).1, if_pos bo, if_pos (ik 4 (by omega)).1, if_pos bo, cl, show (nI (5 * b)).toNatClampNeg = 5 * b from (ik 0 (by omega)).2, (ik 1 (by omega)).2, (ik 2 (by omega)).2, (ik 3 (by omega)).2, (ik 4 (by omega)).2]
    rw [up2_of (by omega), up2_of (by omega), up2_of (by omega), up2_of (by omega), up2_of (by omega), up2_of (by omega), up2_of (by omega), up2_of (by omega), up2_of (by omega), up2_of (by omega), show nI b + (1 : Int32) = nI (b + 1) from nI_1 b]
    generalize eM : up2 (up2 (up2 (up2 (up2 M 87 b (M 92 (5 * b))) 88 b (M 92 (5 * b + 1))) 89 b (M 92 (5 * b + 2))) 90 b (M 92 (5 * b + 3))) 91 b (M 92 (5 * b + 4)) = Ma
    have U : ∀ k j, ¬ (87 ≤ k ∧ k ≤ 91 ∧ j = b) → Ma k j = M k j := fun k j r => by rw [← eM, up2_of (by omega), up2_of (by omega), up2_of (by omega), up2_of (by omega), up2_of (by omega)]
    obtain ⟨M', e1, e2, e3, e4⟩ := ih (b + 1) f Ma (by rw [U _ _ (by omega)]; exact h1) (by omega) (by omega)
    refine ⟨M', e1, fun x g1 g2 => ?_, e3, fun k j r1 r2 r3 => by rw [e4 k j (by omega) r2 r3, U k j (by omega)]⟩
    by_cases e : x = b
    · subst e
      rw [e4 87 x (by omega) (by omega) (by omega), e4 88 x (by omega) (by omega) (by omega), e4 89 x (by omega) (by omega) (by omega), e4 90 x (by omega) (by omega) (by omega), e4 91 x (by omega) (by omega) (by omega), ← eM]
      refine ⟨by rw [up2_of (by omega), up2_of (by omega), up2_of (by omega), up2_of (by omega), up2_at], by rw [up2_of (by omega), up2_of (by omega), up2_of (by omega), up2_at], by rw [up2_of (by omega), up2_of (by omega), up2_at], by rw [up2_of (by omega), up2_at], by rw [up2_at]⟩
    · obtain ⟨y1, y2, y3, y4, y5⟩ := e2 x (by omega) g2
      rw [y1, y2, y3, y4, y5, U 92 _ (by omega), U 92 _ (by omega), U 92 _ (by omega), U 92 _ (by omega), U 92 _ (by omega)]
      exact ⟨rfl, rfl, rfl, rfl, rfl⟩
theorem c_build {M : MM} {k1 i0 N : Nat} (hk1 : 3 ≤ k1 ∧ k1 ≤ 9) (hN : i0 + N ≤ 60) (h16 : 16 ≤ N) (h52 : N ≤ 52) (h6 : (N - 4) % 6 = 0) {C : Nat → Int32} (hC : ∀ p, p < N → M k1 (i0 + p) = C p) : ∃ M' : MM, f_X1_build M k1 (nI i0) (nI N) = some M' ∧ M' 23 4 = C 1 - 48 ∧ M' 23 5 = C 2 - 48 ∧ M' 23 3 = C 3 - 48 ∧ M' 20 3 = nI ((N - 4) / 6) ∧ (∀ x, x < (N - 4) / 6 → M' 21 x = nI (knN (C (5 + 6 * x))) ∧ M' 24 x = C (6 + 6 * x) - 48 ∧ M' 25 x = C (7 + 6 * x) - 48 ∧ M' 26 x = C (8 + 6 * x) - 48 ∧ M' 22 x = C (9 + 6 * x) - 48) ∧ ∀ k j, ¬ ((k = 21 ∨ k = 22 ∨ k = 24 ∨ k = 25 ∨ k = 26) ∧ j < (N - 4) / 6) → ¬ (k = 23 ∧ (j = 3 ∨ j = 4 ∨ j = 5)) → ¬ (k = 20 ∧ j = 3) → M' k j = M k j := by
  unfold f_X1_build
  rw [show nI i0 + (1 : Int32) = nI (i0 + 1) from nI_add _ 1, show nI i0 + (2 : Int32) = nI (i0 + 2) from nI_add _ 2, show nI i0 + (3 : Int32) = nI (i0 + 3) from nI_add _ 3]
  rw [if_pos (ib_ok (by omega) (by omega)), nI_clamp (by omega), hC 1 (by omega), nm_eq, if_pos (ib_ok (by omega) (by omega)), nI_clamp (by omega), up2_of (by omega), hC 2 (by omega), nm_eq, if_pos (ib_ok (by omega) (by omega)), nI_clamp (by omega), up2_of (by omega), up2_of (by omega), hC 3 (by omega), nm_eq, nm_eq, ((ff_d N (by omega)).2 h16).2]
  generalize eM : up2 (up2 (up2 (up2 M 23 4 (C 1 - 48)) 23 5 (C 2 - 48)) 23 3 (C 3 - 48)) 20 3 (nI ((N - 4) / 6)) = Ma
  have U : ∀ k j, ¬ (k = 23 ∧ (j = 3 ∨ j = 4 ∨ j = 5)) → ¬ (k = 20 ∧ j = 3) → Ma k j = M k j := fun k j r1 r2 => by rw [← eM, up2_of (by omega), up2_of (by omega), up2_of (by omega), up2_of (by omega)]
  obtain ⟨M', e1, e2, e3⟩ := c_buildL hk1 hN (n := (N - 4) / 6) (by omega) (by omega) (C := C) ((N - 4) / 6) 0 FU Ma (fun p hp => by rw [U _ _ (by omega) (by omega)]; exact hC p hp) (by rw [← eM, up2_at]) (by omega) (by have := FU_eq; omega)
  refine ⟨M', e1, ?_, ?_, ?_, ?_, fun x hx => e2 x (by omega) hx, fun k j r1 r2 r3 => by rw [e3 k j (by omega), U k j r2 r3]⟩
  · rw [e3 _ _ (by omega), ← eM, up2_of (by omega), up2_of (by omega), up2_of (by omega), up2_at]
  · rw [e3 _ _ (by omega), ← eM, up2_of (by omega), up2_of (by omega), up2_at]
  · rw [e3 _ _ (by omega), ← eM, up2_of (by omega), up2_at]
  · rw [e3 _ _ (by omega), ← eM, up2_at]
theorem m_takeLo {M : MM} {n : Nat} (hn : n ≤ 8) (h18 : M 83 18 = nI n) : ∃ M' : MM, f_X11_takeLoft M = some M' ∧ M' 83 6 = M 83 15 ∧ M' 83 7 = M 83 16 ∧ M' 83 8 = M 83 17 ∧ M' 83 5 = nI n ∧ (∀ x, x < n → M' 87 x = M 92 (5 * x) ∧ M' 88 x = M 92 (5 * x + 1) ∧ M' 89 x = M 92 (5 * x + 2) ∧ M' 90 x = M 92 (5 * x + 3) ∧ M' 91 x = M 92 (5 * x + 4)) ∧ (M' 83 21 = 0 ∧ M' 95 0 = 0 ∧ M' 95 1 = 0 ∧ M' 83 35 = 0) ∧ ∀ k j, ¬ (87 ≤ k ∧ k ≤ 91 ∧ j < n) → ¬ (k = 83 ∧ (j = 21 ∨ j = 35 ∨ j = 5 ∨ j = 6 ∨ j = 7 ∨ j = 8)) → k ≠ 95 → M' k j = M k j := by
  unfold f_X11_takeLoft
  rw [nm_eq, nm_eq, nm_eq, nm_eq, up2_of (by omega), up2_of (by omega), up2_of (by omega), up2_of (by omega), up2_of (by omega), up2_of (by omega), h18]
  generalize eM : up2 (up2 (up2 (up2 M 83 6 (M 83 15)) 83 7 (M 83 16)) 83 8 (M 83 17)) 83 5 (nI n) = Ma
  have U : ∀ k j, ¬ (k = 83 ∧ (j = 5 ∨ j = 6 ∨ j = 7 ∨ j = 8)) → Ma k j = M k j := fun k j r1 => by rw [← eM, up2_of (by omega), up2_of (by omega), up2_of (by omega), up2_of (by omega)]
  obtain ⟨M', e1, e2, e3, e4⟩ := m_takeL hn n 0 FU Ma (by rw [← eM, up2_at]) (by omega) (by have := FU_eq; omega)
  refine ⟨M', e1, ?_, ?_, ?_, ?_, fun x hx => ?_, e3, fun k j r1 r2 r3 => by rw [e4 k j (by omega) (by omega) r3, U k j (by omega)]⟩
  · rw [e4 _ _ (by omega) (by omega) (by omega), ← eM, up2_of (by omega), up2_of (by omega), up2_of (by omega), up2_at]
  · rw [e4 _ _ (by omega) (by omega) (by omega), ← eM, up2_of (by omega), up2_of (by omega), up2_at]
  · rw [e4 _ _ (by omega) (by omega) (by omega), ← eM, up2_of (by omega), up2_at]
  · rw [e4 _ _ (by omega) (by omega) (by omega), ← eM, up2_at]
  · obtain ⟨y1, y2, y3, y4, y5⟩ := e2 x (by omega) hx
    rw [y1, y2, y3, y4, y5, U 92 _ (by omega), U 92 _ (by omega), U 92 _ (by omega), U 92 _ (by omega), U 92 _ (by omega)]
    exact ⟨rfl, rfl, rfl, rfl, rfl⟩
