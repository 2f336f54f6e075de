-- sheets: what is wrong with taking cells
def foS (hr lane : Int32) (L : Nat) (v1 v2 v3 : Int32) : Int32 := if hr = 0 then 1 else if lane = v1 then (if 0 ≤ v3 then (if v2 < 0 then 3 else if nI L < v2 then 3 else if nI L - v2 < v3 then 3 else 0) else 4) else 2
theorem c_hasC {M : MM} {k0 L : Nat} (h : M k0 3 = nI L) (v1 v2 : Int32) : f_X7_hasCells M k0 v1 v2 = some (if v1 < 0 then 0 else if nI L < v1 then 0 else if nI L - v1 < v2 then 0 else 1) := by
  unfold f_X7_hasCells
  rw [h]
  split
  · rfl
  · split
    · rfl
    · split <;> rfl
theorem c_fault {M : MM} {k0 L : Nat} (h : M k0 3 = nI L) (v1 v2 v3 : Int32) : f_X7_faultOf M k0 v1 v2 v3 = some (foS (M k0 1) (M k0 2) L v1 v2 v3) := by
  unfold f_X7_faultOf foS
  rw [c_hasC h]
  by_cases h1 : M k0 1 = 0
  · simp [h1]
  · by_cases h2 : M k0 2 = v1
    · by_cases h3 : 0 ≤ v3
      · simp only [if_neg h1, if_pos h2, if_pos h3, br_s]
        by_cases h4 : v2 < 0
        · simp [h4]
        · by_cases h5 : nI L < v2
          · simp [h4, h5]
          · by_cases h6 : nI L - v2 < v3
            · simp [h4, h5, h6]
            · simp [h4, h5, h6]
      · simp [h1, h2, h3]
    · simp [h1, h2]
theorem m_against {M : MM} {k L : Nat} (hk : k < 4) (h85 : M 85 k = nI L) {hr lane : Int32} (h84 : M 84 k = if hr = 0 then -9 else lane) (hl : ¬ hr = 0 → ¬ lane = -9) (v1 v2 v3 : Int32) : f_X11_against M (nI k) v1 v2 v3 = some (foS hr lane L v1 v2 v3) := by
  have bk : ib (nI k) 4 = true := ib_ok hk (by omega)
  unfold f_X11_against g_X11_against_23 foS
  simp only [if_pos bk, nI_clamp (show k < 2 ^ 31 by omega), h84, h85]
  by_cases h1 : hr = 0
  · simp [h1]
  · have h9 := hl h1
    simp only [if_neg h1, if_neg h9]
    by_cases h2 : lane = v1
    · simp only [if_pos h2]
      by_cases h3 : 0 ≤ v3
      · simp only [if_pos h3]
        by_cases h4 : v2 < 0
        · simp [h4]
        · by_cases h5 : nI L < v2
          · simp [h4, h5]
          · by_cases h6 : nI L - v2 < v3
            · have h7 : ¬ v3 ≤ nI L - v2 := Int32.not_le.mpr h6
              simp [h4, h5, h6, h7]
            · have h7 : v3 ≤ nI L - v2 := Int32.not_lt.mp h6
              simp [h4, h5, h6, h7]
      · simp [h3]
    · simp [h2]
/-- one cell: there or not -/
theorem one_d {L : Nat} (hL : L ≤ 60) (v : Int32) : (∃ j, j < L ∧ v = nI j ∧ ¬ v < 0 ∧ ¬ nI L < v ∧ ¬ nI L - v < 1 ∧ (0 ≤ v ∧ v ≤ nI L - 1)) ∨ ((v < 0 ∨ nI L < v ∨ nI L - v < 1) ∧ ¬ (0 ≤ v ∧ v ≤ nI L - 1)) := by
  have eL : (nI L - 1).toInt = (L : Int) - 1 := pk_sub_toInt (b := 1) (by omega) (by omega)
  rcases pk_ix v (n := L) (by omega) with h | h | ⟨j, hj, rfl⟩
  · exact Or.inr ⟨Or.inl h, fun q => absurd q.1 (Int32.not_le.mpr h)⟩
  · refine Or.inr ⟨?_, fun q => ?_⟩
    · by_cases e : v = nI L
      · subst e
        right; right
        rw [Int32.sub_self]
        decide
      · right; left
        rcases Int32.lt_or_eq_of_le h with z | z
        · exact z
        · exact absurd z.symm e
    · have h1 := Int32.le_iff_toInt_le.mp h
      have h2 := Int32.le_iff_toInt_le.mp q.2
      rw [nI_toInt (by omega)] at h1
      rw [eL] at h2
      omega
  · refine Or.inl ⟨j, hj, rfl, nI_pos (by omega), nI_nlt (by omega) (by omega), ?_, nI_nn (by omega), ?_⟩
    · rw [pk_sub (by omega)]
      exact nI_nlt (b := 1) (by omega) (by omega)
    · rw [show nI L - 1 = nI (L - 1) from pk_sub (b := 1) (by omega)]
      exact nI_le (by omega) (by omega)
