-- pairs of a batten and a height, as both sides take them from a sheet
theorem foS0 {hr lane v1 v2 : Int32} {L m2 : Nat} (hL : L ≤ 60) (hm : m2 ≤ 40) (h : foS hr lane L v1 v2 (nI m2) = 0) : ∃ i0, v2 = nI i0 ∧ i0 + m2 ≤ L := by
  unfold foS at h
  split at h
  · exact absurd h (by decide)
  · split at h
    · split at h
      · split at h
        · exact absurd h (by decide)
        · rename_i g1
          split at h
          · exact absurd h (by decide)
          · rename_i g2
            split at h
            · exact absurd h (by decide)
            · rename_i g3
              obtain ⟨i0, h1, h2⟩ := nI_of g1
              subst h2
              have h3 : i0 ≤ L := by
                have := Int32.not_lt.mp g2
                exact (nI_leI h1 (by omega)).mp this
              refine ⟨i0, rfl, ?_⟩
              rw [pk_sub h3] at g3
              have := (nI_leI (by omega) (by omega)).mp (Int32.not_lt.mp g3)
              omega
      · exact absurd h (by decide)
    · exact absurd h (by decide)
theorem foS_ne {hr lane v1 v2 v3 : Int32} {L : Nat} (h : ¬ foS hr lane L v1 v2 v3 = 0) : ¬ ((-10 : Int32) - foS hr lane L v1 v2 v3 = 0) := by
  unfold foS at h ⊢
  split
  · decide
  · split
    · split
      · split
        · decide
        · split
          · decide
          · split
            · decide
            · rename_i a1 a2 a3 a4 a5 a6
              simp [a1, a2, a3, a4, a5, a6] at h
      · decide
    · decide
/-- what n pairs of cells say: 0, or what the call answers -/
def scD (n : Nat) (C : Nat → Int32) : Nat → Nat → Int32
  | 0, _ => 0
  | d + 1, k => if hb n (C (2 * k)) = false then -1 else if inR (C (2 * k + 1)) 0 9 = false then -2 else scD n C d (k + 1)
theorem scD_s (n : Nat) (C : Nat → Int32) (d k : Nat) : scD n C (d + 1) k = if hb n (C (2 * k)) = false then -1 else if inR (C (2 * k + 1)) 0 9 = false then -2 else scD n C d (k + 1) := rfl
theorem scD_ok {n : Nat} (hn : n < 2 ^ 31) {C : Nat → Int32} : ∀ (d k : Nat), scD n C d k = 0 → ∀ i, k ≤ i → i < k + d → (∃ b, b < n ∧ C (2 * i) = nI b) ∧ ∃ a, a ≤ 9 ∧ C (2 * i + 1) = nI a
  | 0, k, _, i, h1, h2 => by omega
  | d + 1, k, h, i, h1, h2 => by
    rw [scD_s] at h
    split at h
    · exact absurd h (by decide)
    · rename_i g1
      split at h
      · exact absurd h (by decide)
      · rename_i g2
        by_cases e : i = k
        · subst e
          obtain ⟨b, b1, b2⟩ := hb_yes hn (by simpa using g1)
          obtain ⟨a, a1, a2⟩ := inR_yes0 (v := C (2 * i + 1)) (b := 9) (by omega) (by simpa using g2)
          exact ⟨⟨b, b1, b2⟩, ⟨a, a1, a2⟩⟩
        · exact scD_ok hn d (k + 1) h i (by omega) (by omega)
theorem scD_mv {n : Nat} (hn : n < 2 ^ 31) {C : Nat → Int32} {m : Nat} (h : scD n C m 0 = 0) : ∃ mb mh : Nat → Nat, ∀ k, k < m → mb k < n ∧ C (2 * k) = nI (mb k) ∧ mh k ≤ 9 ∧ C (2 * k + 1) = nI (mh k) := by
  have h1 := scD_ok hn m 0 h
  refine ⟨fun k => (C (2 * k)).toNatClampNeg, fun k => (C (2 * k + 1)).toNatClampNeg, fun k hk => ?_⟩
  obtain ⟨⟨b, b1, b2⟩, ⟨a, a1, a2⟩⟩ := h1 k (by omega) (by omega)
  try dsimp only
  rw [b2, a2, nI_clamp (by omega), nI_clamp (by omega)]
  exact ⟨b1, rfl, a1, rfl⟩
theorem ix2 (i0 k : Nat) : nI i0 + ((2 : Int32) * nI k) = nI (i0 + 2 * k) := by
  rw [show (2 : Int32) * nI k = nI (2 * k) from pk_mul 2 k, nI_add]
theorem c_takeL {n : Nat} (n8 : n ≤ 8) {k1 i0 m : Nat} (k1b : k1 ≤ 20) (him : i0 + 2 * m ≤ 60) (hm : m ≤ 20) {C : Nat → Int32} : ∀ (d i fuel : Nat) (M : MM), M 20 3 = nI n → (∀ q, M (k1 + 1) (i0 + q) = C q) → M 65 2 = nI i → i + d = m → d < fuel → ∃ M' : MM, g_X10_takeMoves_48 k1 fuel M (nI i0) (nI m) (nI i) = some (scD n C d i, M') ∧ (∀ k j, ¬ (65 ≤ k ∧ k ≤ 67) → M' k j = M k j) ∧ (∀ k, k < i → M' 66 k = M 66 k ∧ M' 67 k = M 67 k) ∧ (scD n C d i = 0 → M' 65 2 = nI m ∧ ∀ k, i ≤ k → k < m → M' 66 k = C (2 * k) ∧ M' 67 k = C (2 * k + 1)) := by
  intro d
  induction d with
  | zero =>
    intro i fuel M h1 hC h2 h3 h4
    obtain ⟨f, rfl⟩ : ∃ f, fuel = f + 1 := ⟨fuel - 1, by omega⟩
    obtain rfl : i = m := by omega
    rw [g_X10_takeMoves_48, if_pos (nI_le (Nat.le_refl i) (by omega))]
    exact ⟨M, rfl, fun k j _ => rfl, fun k _ => ⟨rfl, rfl⟩, fun _ => ⟨h2, fun k g1 g2 => by omega⟩⟩
  | succ d ih =>
    intro i fuel M h1 hC h2 h3 h4
    obtain ⟨f, rfl⟩ : ∃ f, fuel = f + 1 := ⟨fuel - 1, by omega⟩
    rw [g_X10_takeMoves_48, if_neg (nI_ge (by omega) (by omega)), ix2, show nI (i0 + 2 * i) + (1 : Int32) = nI (i0 + 2 * i + 1) from nI_1 _, if_pos (ib_ok (by omega) (by omega)), nI_clamp (by omega), nm_eq, if_pos (ib_ok (by omega) (by omega)), nI_clamp (by omega), nm_eq, hC, show i0 + 2 * i + 1 = i0 + (2 * i + 1) by omega, hC, c_has h1, br_s, q_X10_isHeight, br_s]
    simp only [b2i0]
    rw [scD_s]
    by_cases g1 : hb n (C (2 * i)) = false
    · rw [if_pos g1, if_pos g1]
      exact ⟨M, rfl, fun k j _ => rfl, fun k _ => ⟨rfl, rfl⟩, fun q => absurd q (by decide)⟩
    · rw [if_neg g1, if_neg g1]
      by_cases g2 : inR (C (2 * i + 1)) 0 9 = false
      · rw [if_pos g2, if_pos g2]
        exact ⟨M, rfl, fun k j _ => rfl, fun k _ => ⟨rfl, rfl⟩, fun q => absurd q (by decide)⟩
      · rw [if_neg g2, if_neg g2]
        have ea : f_X2_add M (C (2 * i)) (C (2 * i + 1)) = some (up2 (up2 (up2 M 66 i (C (2 * i))) 67 i (C (2 * i + 1))) 65 2 (nI (i + 1))) := by
          unfold f_X2_add
          rw [h2, if_neg (show ¬ (20 : Int32) ≤ nI i from nI_ge (b := 20) (show i < 20 by omega) (by omega)), if_pos (ib_ok (by omega) (by omega)), nm_eq, up2_of (by omega), h2, nI_clamp (by omega), if_pos (ib_ok (by omega) (by omega)), nm_eq, up2_of (by omega), up2_of (by omega), h2, show nI i + (1 : Int32) = nI (i + 1) from nI_1 _, nm_eq]
        rw [ea, br_s, show nI i + (1 : Int32) = nI (i + 1) from nI_1 _]
        generalize eM : up2 (up2 (up2 M 66 i (C (2 * i))) 67 i (C (2 * i + 1))) 65 2 (nI (i + 1)) = Ma
        have u : ∀ k j, ¬ (k = 66 ∧ j = i) → ¬ (k = 67 ∧ j = i) → ¬ (k = 65 ∧ j = 2) → Ma k j = M k j := fun k j r1 r2 r3 => by rw [← eM, up2_of r3, up2_of r2, up2_of r1]
        obtain ⟨M', e0, e1, e2, e3⟩ := ih (i + 1) f Ma (by rw [u 20 3 (by omega) (by omega) (by omega)]; exact h1) (fun q => by rw [u (k1 + 1) _ (by omega) (by omega) (by omega)]; exact hC q) (by rw [← eM, up2_at]) (by omega) (by omega)
        refine ⟨M', e0, fun k j r => by rw [e1 k j r, u k j (by omega) (by omega) (by omega)], fun k hk => ?_, fun z => ⟨(e3 z).1, fun k g3 g4 => ?_⟩⟩
        · rw [(e2 k (by omega)).1, (e2 k (by omega)).2, u 66 k (by omega) (by omega) (by omega), u 67 k (by omega) (by omega) (by omega)]
          exact ⟨rfl, rfl⟩
        · by_cases e : k = i
          · subst e
            rw [(e2 k (by omega)).1, (e2 k (by omega)).2, ← eM]
            exact ⟨by rw [up2_of (by omega), up2_of (by omega), up2_at], by rw [up2_of (by omega), up2_at]⟩
          · exact (e3 z).2 k (by omega) g4
theorem m_refL {n : Nat} {M : MM} (hn : M 83 5 = nI n) {o m : Nat} (hm : m ≤ 20) (ho : o + 2 * m ≤ 240) {C : Nat → Int32} (hC : ∀ q, q < 2 * m → M 86 (o + q) = C q) : ∀ (d i fuel : Nat), i + d = m → d < fuel → g_X11_refusesPairs_2 M fuel (nI o) (nI m) (nI i) = some (scD n C d i) := by
  intro d
  induction d with
  | zero =>
    intro i fuel h3 h4
    obtain ⟨f, rfl⟩ : ∃ f, fuel = f + 1 := ⟨fuel - 1, by omega⟩
    obtain rfl : i = m := by omega
    rw [g_X11_refusesPairs_2, if_pos (nI_le (Nat.le_refl i) (by omega))]
    rfl
  | succ d ih =>
    intro i fuel h3 h4
    obtain ⟨f, rfl⟩ : ∃ f, fuel = f + 1 := ⟨fuel - 1, by omega⟩
    rw [g_X11_refusesPairs_2, if_neg (nI_ge (by omega) (by omega)), ix2, show nI (o + 2 * i) + (1 : Int32) = nI (o + 2 * i + 1) from nI_1 _, if_pos (ib_ok (by omega) (by omega)), nI_clamp (by omega), if_pos (ib_ok (by omega) (by omega)), nI_clamp (by omega), hC _ (by omega), show o + 2 * i + 1 = o + (2 * i + 1) by omega, hC _ (by omega), m_has hn, br_s, q_X11_isDigit, br_s, show nI i + (1 : Int32) = nI (i + 1) from nI_1 _, ih (i + 1) f (by omega) (by omega)]
    simp only [b2i0]
    rw [scD_s]
    split
    · rfl
    · split <;> rfl
