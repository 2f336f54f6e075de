-- what is remembered
theorem cp8 : cpok (0 : Int32) (0 : Int32) (8 : Int32) 8 8 = true := by decide
theorem cpz (f g : Nat → Int32) {j : Nat} (h : j < 8) : va_cpy f g (0 : Int32).toNatClampNeg (0 : Int32).toNatClampNeg (8 : Int32).toNatClampNeg j = f j := cpy8 h
theorem tm (M : MM) {k0 k1 : Nat} (hd : k0 + 3 < k1 ∨ k1 + 3 < k0) : ∃ M' : MM, f_X6_takeMoved M k0 k1 = some M' ∧ (∀ j, j < 8 → M' (k0 + 1) j = M (k1 + 1) j ∧ M' (k0 + 2) j = M (k1 + 2) j ∧ M' (k0 + 3) j = M (k1 + 3) j) ∧ M' k0 3 = M k1 3 ∧ (∀ k j, (k < k0 ∨ k0 + 3 < k) → M' k j = M k j) ∧ ∀ j, j ≠ 3 → M' k0 j = M k0 j := by
  unfold f_X6_takeMoved
  simp only [nm_eq, if_pos cp8]
  refine ⟨_, rfl, fun j hj => ⟨?_, ?_, ?_⟩, ?_, fun k j hk => ?_, fun j hj => ?_⟩
  · rw [up2_of (by omega), upR_ne (by omega), upR_ne (by omega), upR_at, cpz _ _ hj]
  · rw [up2_of (by omega), upR_ne (by omega), upR_at, cpz _ _ hj, upR_ne (by omega)]
  · rw [up2_of (by omega), upR_at, cpz _ _ hj, upR_ne (by omega), upR_ne (by omega)]
  · rw [up2_at, upR_ne (by omega), upR_ne (by omega), upR_ne (by omega)]
  · rw [up2_of (by omega), upR_ne (by omega), upR_ne (by omega), upR_ne (by omega)]
  · rw [up2_of (by omega), upR_ne (by omega), upR_ne (by omega), upR_ne (by omega)]
theorem ring_d : ∀ q, q < 8 → rm32 (nI q + (1 : Int32)) (8 : Int32) = nI ((q + 1) % 8) := by decide +kernel
theorem rinb_d : ∀ q, q < 8 → rm32 (nI q + (8 : Int32) - (1 : Int32)) (8 : Int32) = nI ((q + 7) % 8) := by decide +kernel
theorem cap_d : ∀ p, p < 9 → mn32 (nI p + (1 : Int32)) (8 : Int32) = nI (if p < 8 then p + 1 else 8) := by decide +kernel
/-- the class remembers: its ring -/
theorem c_rem (M : MM) {p q : Nat} (hp : p ≤ 8) (hq : q < 8) (h1 : M 27 1 = nI p) (h2 : M 27 2 = nI q) : ∃ M' : MM, f_X3_remember M = some M' ∧ M' 27 1 = nI (if p < 8 then p + 1 else 8) ∧ M' 27 2 = nI ((q + 1) % 8) ∧ (∀ j, j < 8 → M' (29 + 4 * q + 1) j = M 24 j ∧ M' (29 + 4 * q + 2) j = M 25 j ∧ M' (29 + 4 * q + 3) j = M 26 j) ∧ M' (29 + 4 * q) 3 = M 23 3 ∧ ∀ k j, ¬ (k = 27 ∧ (j = 1 ∨ j = 2)) → (k < 29 + 4 * q ∨ 29 + 4 * q + 3 < k) → M' k j = M k j := by
  obtain ⟨M3, e, g1, g2, g3, g4⟩ := tm M (k0 := 29 + 4 * q) (k1 := 23) (by omega)
  have a1 : M3 27 1 = nI p := (g3 27 1 (by omega)).trans h1
  have a2 : M3 27 2 = nI q := (g3 27 2 (by omega)).trans h2
  unfold f_X3_remember
  rw [h2, if_pos (ib_ok hq (by omega)), nI_clamp (by omega), e]
  simp only [br_s, nm_eq]
  refine ⟨_, rfl, ?_, ?_, fun j hj => ?_, ?_, fun k j r1 r2 => ?_⟩
  · rw [up2_at, up2_of (by omega), a1, cap_d p (by omega)]
  · rw [up2_of (by omega), up2_at, a2, ring_d q hq]
  · rw [up2_of (by omega), up2_of (by omega), up2_of (by omega), up2_of (by omega), up2_of (by omega), up2_of (by omega)]
    exact g1 j hj
  · rw [up2_of (by omega), up2_of (by omega)]
    exact g2
  · rw [up2_of (by omega), up2_of (by omega)]
    exact g3 k j r2
/-- the reference writes a rig into a row -/
theorem wr_loop {k1 n1 o : Nat} (hk : k1 ≠ 83 ∧ k1 ≠ 88 ∧ k1 ≠ 89 ∧ k1 ≠ 90) (ho : o + 24 < n1) (hn : n1 ≤ 1000) : ∀ (d i fuel : Nat) (M : MM), i + d = 8 → d < fuel → ∃ M' : MM, g_X11_write_2 k1 n1 fuel M (nI o) (nI i) = some M' ∧ (∀ j, i ≤ j → j < 8 → M' k1 (o + j) = M 90 j ∧ M' k1 (o + 8 + j) = M 88 j ∧ M' k1 (o + 16 + j) = M 89 j) ∧ M' k1 (o + 24) = M 83 8 ∧ (∀ a, ¬ a = o + 24 → (∀ j, i ≤ j → j < 8 → a ≠ o + j ∧ a ≠ o + 8 + j ∧ a ≠ o + 16 + j) → M' k1 a = M k1 a) ∧ ∀ k a, k ≠ k1 → M' k a = M k a := by
  obtain ⟨k83, k88, k89, k90⟩ := hk
  intro d
  induction d with
  | zero =>
    intro i fuel M h1 h2
    obtain ⟨f, rfl⟩ : ∃ f, fuel = f + 1 := ⟨fuel - 1, by omega⟩
    obtain rfl : i = 8 := by omega
    rw [g_X11_write_2, if_pos (show (8 : Int32) ≤ nI 8 by decide)]
    have e : nI o + (24 : Int32) = nI (o + 24) := nI_add o 24
    rw [e, if_pos (ib_ok ho (by omega)), nI_clamp (by omega)]
    simp only [nm_eq]
    exact ⟨_, rfl, fun j g1 g2 => by omega, up2_at _ _ _ _, fun a g1 _ => up2_of (by omega), fun k a g => up2_of (by omega)⟩
  | succ d ih =>
    intro i fuel M h1 h2
    obtain ⟨f, rfl⟩ : ∃ f, fuel = f + 1 := ⟨fuel - 1, by omega⟩
    rw [g_X11_write_2, if_neg (show ¬ (8 : Int32) ≤ nI i from nI_ge (b := 8) (by omega) (by omega))]
    have e0 : nI o + nI i = nI (o + i) := nI_add o i
    have e1 : nI o + (8 : Int32) + nI i = nI (o + 8 + i) := by rw [show nI o + (8 : Int32) = nI (o + 8) from nI_add o 8, nI_add]
    have e2 : nI o + (16 : Int32) + nI i = nI (o + 16 + i) := by rw [show nI o + (16 : Int32) = nI (o + 16) from nI_add o 16, nI_add]
    have e3 : nI i + (1 : Int32) = nI (i + 1) := nI_1 i
    have b0 : ib (nI i) 8 = true := ib_ok (by omega) (by omega)
    have b1 : ib (nI (o + i)) n1 = true := ib_ok (by omega) (by omega)
    have b2 : ib (nI (o + 8 + i)) n1 = true := ib_ok (by omega) (by omega)
    have b3 : ib (nI (o + 16 + i)) n1 = true := ib_ok (by omega) (by omega)
    simp only [e0, e1, e2, e3, if_pos b0, if_pos b1, if_pos b2, if_pos b3, nm_eq, nI_clamp (show i < 2 ^ 31 by omega), nI_clamp (show o + i < 2 ^ 31 by omega), nI_clamp (show o + 8 + i < 2 ^ 31 by omega), nI_clamp (show o + 16 + i < 2 ^ 31 by omega)]
    obtain ⟨M', g0, g1, g2, g3, g4⟩ := ih (i + 1) f (up2 (up2 (up2 M k1 (o + i) (M 90 i)) k1 (o + 8 + i) (up2 M k1 (o + i) (M 90 i) 88 i)) k1 (o + 16 + i) (up2 (up2 M k1 (o + i) (M 90 i)) k1 (o + 8 + i) (up2 M k1 (o + i) (M 90 i) 88 i) 89 i)) (by omega) (by omega)
    refine ⟨M', g0, fun j j1 j2 => ?_, ?_, fun a a1 a2 => ?_, fun k a hk => ?_⟩
    · by_cases hj : j = i
      · subst hj
        rw [g3 (o + j) (by omega) (fun x x1 x2 => by omega), g3 (o + 8 + j) (by omega) (fun x x1 x2 => by omega), g3 (o + 16 + j) (by omega) (fun x x1 x2 => by omega)]
        refine ⟨?_, ?_, ?_⟩
        · rw [up2_of (by omega), up2_of (by omega), up2_at]
        · rw [up2_of (by omega), up2_at, up2_of (by omega)]
        · rw [up2_at, up2_of (by omega), up2_of (by omega)]
      · obtain ⟨x1, x2, x3⟩ := g1 j (by omega) j2
        rw [x1, x2, x3]
        refine ⟨?_, ?_, ?_⟩ <;> rw [up2_of (by omega), up2_of (by omega), up2_of (by omega)]
    · rw [g2, up2_of (by omega), up2_of (by omega), up2_of (by omega)]
    · have y := a2 i (by omega) (by omega)
      rw [g3 a a1 (fun x x1 x2 => a2 x (by omega) x2), up2_of (by omega), up2_of (by omega), up2_of (by omega)]
    · rw [g4 k a hk, up2_of (by omega), up2_of (by omega), up2_of (by omega)]
theorem m_write (M : MM) {k1 n1 o : Nat} (hk : k1 ≠ 83 ∧ k1 ≠ 88 ∧ k1 ≠ 89 ∧ k1 ≠ 90) (ho : o + 24 < n1) (hn : n1 ≤ 1000) : ∃ M' : MM, f_X11_write M k1 n1 (nI o) = some M' ∧ (∀ j, j < 8 → M' k1 (o + j) = M 90 j ∧ M' k1 (o + 8 + j) = M 88 j ∧ M' k1 (o + 16 + j) = M 89 j) ∧ M' k1 (o + 24) = M 83 8 ∧ (∀ a, (a < o ∨ o + 24 < a) → M' k1 a = M k1 a) ∧ ∀ k a, k ≠ k1 → M' k a = M k a := by
  obtain ⟨M', g0, g1, g2, g3, g4⟩ := wr_loop hk ho hn 8 0 FU M (by omega) (by decide)
  exact ⟨M', g0, fun j hj => g1 j (by omega) hj, g2, fun a ha => g3 a (by omega) (fun j _ _ => by omega), g4⟩
/-- the reference moves what it remembers down by one -/
theorem sh_loop : ∀ (d i fuel : Nat) (M : MM), i + d = 200 → 25 ≤ i → d < fuel → ∃ M' : MM, g_X11_remember_12 fuel M (nI i) = g_X11_remember_50 (up2 M' 83 21 (M' 83 21 - (1 : Int32))) ∧ (∀ a, i ≤ a + 25 → a < 175 → M' 94 a = M 94 (a + 25)) ∧ (∀ a, (a + 25 < i ∨ 175 ≤ a) → M' 94 a = M 94 a) ∧ ∀ k a, k ≠ 94 → M' k a = M k a := by
  intro d
  induction d with
  | zero =>
    intro i fuel M h1 h2 h3
    obtain ⟨f, rfl⟩ : ∃ f, fuel = f + 1 := ⟨fuel - 1, by omega⟩
    obtain rfl : i = 200 := by omega
    rw [g_X11_remember_12, if_pos (show (200 : Int32) ≤ nI 200 by decide)]
    exact ⟨M, rfl, fun a a1 a2 => by omega, fun a _ => rfl, fun k a _ => rfl⟩
  | succ d ih =>
    intro i fuel M h1 h2 h3
    obtain ⟨f, rfl⟩ : ∃ f, fuel = f + 1 := ⟨fuel - 1, by omega⟩
    rw [g_X11_remember_12, if_neg (show ¬ (200 : Int32) ≤ nI i from nI_ge (b := 200) (by omega) (by omega))]
    have e0 : nI i - (25 : Int32) = nI (i - 25) := pk_sub h2
    have e3 : nI i + (1 : Int32) = nI (i + 1) := nI_1 i
    simp only [e0, e3, if_pos (ib_ok (show i < 200 by omega) (by omega)), if_pos (ib_ok (show i - 25 < 200 by omega) (by omega)), nm_eq, nI_clamp (show i < 2 ^ 31 by omega), nI_clamp (show i - 25 < 2 ^ 31 by omega)]
    obtain ⟨M', g0, g1, g2, g3⟩ := ih (i + 1) f (up2 M 94 (i - 25) (M 94 i)) (by omega) (by omega) (by omega)
    refine ⟨M', g0, fun a a1 a2 => ?_, fun a ha => ?_, fun k a hk => ?_⟩
    · by_cases ha : a + 25 = i
      · rw [g2 a (by omega), up2_eq, if_pos (by omega), ha]
      · rw [g1 a (by omega) a2, up2_of (by omega)]
    · rw [g2 a (by omega), up2_of (by omega)]
    · rw [g3 k a hk, up2_of (by omega)]
/-- the reference remembers -/
theorem m_rem (M : MM) {p : Nat} (hp : p ≤ 8) (h1 : M 83 21 = nI p) : ∃ M' : MM, f_X11_remember M = some M' ∧ M' 83 21 = nI (if p < 8 then p + 1 else 8) ∧ (∀ j, j < 8 → M' 94 (25 * (if p < 8 then p else 7) + j) = M 90 j ∧ M' 94 (25 * (if p < 8 then p else 7) + 8 + j) = M 88 j ∧ M' 94 (25 * (if p < 8 then p else 7) + 16 + j) = M 89 j) ∧ M' 94 (25 * (if p < 8 then p else 7) + 24) = M 83 8 ∧ (∀ a, a < 25 * (if p < 8 then p else 7) → M' 94 a = M 94 (if p < 8 then a else a + 25)) ∧ ∀ k a, k ≠ 94 → ¬ (k = 83 ∧ a = 21) → M' k a = M k a := by
  unfold f_X11_remember
  by_cases hp8 : p < 8
  · simp only [if_pos hp8]
    rw [h1, if_neg (show ¬ nI p = (8 : Int32) from fun q => by have := (nI_eq (b := 8) (by omega) (by omega)).mp q; omega)]
    unfold g_X11_remember_50
    rw [h1, show (25 : Int32) * nI p = nI (25 * p) from pk_mul 25 p]
    obtain ⟨M2, g0, g1, g2, g3, g4⟩ := m_write M (k1 := 94) (n1 := 200) (o := 25 * p) (by omega) (by omega) (by omega)
    rw [g0]
    simp only [br_s, nm_eq]
    refine ⟨_, rfl, ?_, fun j hj => ?_, ?_, fun a ha => ?_, fun k a r1 r2 => ?_⟩
    · rw [up2_at, g4 83 21 (by omega), h1]
      exact nI_1 p
    · rw [up2_of (by omega), up2_of (by omega), up2_of (by omega)]
      exact g1 j hj
    · rw [up2_of (by omega)]
      exact g2
    · rw [up2_of (by omega)]
      exact g3 a (by omega)
    · rw [up2_of (by omega)]
      exact g4 k a r1
  · obtain rfl : p = 8 := by omega
    simp only [if_neg hp8]
    rw [h1, if_pos (show nI 8 = (8 : Int32) from rfl)]
    obtain ⟨M5, s0, s1, s2, s3⟩ := sh_loop 175 25 FU M (by omega) (by omega) (by decide)
    rw [show (25 : Int32) = nI 25 from rfl, s0]
    unfold g_X11_remember_50
    have e7 : M5 83 21 - (1 : Int32) = nI 7 := by rw [s3 83 21 (by omega), h1]; rfl
    rw [e7, up2_at, show (25 : Int32) * nI 7 = nI 175 from rfl]
    obtain ⟨M2, g0, g1, g2, g3, g4⟩ := m_write (up2 M5 83 21 (nI 7)) (k1 := 94) (n1 := 200) (o := 175) (by omega) (by omega) (by omega)
    rw [g0]
    simp only [br_s, nm_eq]
    have u : ∀ k a, k ≠ 94 → ¬ (k = 83 ∧ a = 21) → up2 M5 83 21 (nI 7) k a = M k a := fun k a r1 r2 => by rw [up2_of r2, s3 k a r1]
    refine ⟨_, rfl, ?_, fun j hj => ?_, ?_, fun a ha => ?_, fun k a r1 r2 => ?_⟩
    · rw [up2_at, g4 83 21 (by omega), up2_at]
      rfl
    · rw [up2_of (by omega), up2_of (by omega), up2_of (by omega)]
      obtain ⟨x1, x2, x3⟩ := g1 j hj
      rw [u 90 j (by omega) (by omega)] at x1
      rw [u 88 j (by omega) (by omega)] at x2
      rw [u 89 j (by omega) (by omega)] at x3
      exact ⟨x1, x2, x3⟩
    · rw [up2_of (by omega)]
      exact g2.trans (u 83 8 (by omega) (by omega))
    · rw [up2_of (by omega), g3 a (by omega), up2_of (by omega), s1 a (by omega) (by omega)]
    · rw [up2_of (by omega), g4 k a r1, u k a r1 r2]
theorem ps_rem {M M2 : MM} {p q : Nat} (hp : p ≤ 8) (hq : q < 8) (old : ∀ i, i < p → rigEq M (29 + 4 * ((q + 8 - p + i) % 8)) 94 (25 * i)) (dg : ∀ j, j < 8 → (M 24 j = M 88 j ∧ isD 9 (M 24 j)) ∧ (M 25 j = M 89 j ∧ isD 9 (M 25 j)) ∧ (M 26 j = M 90 j ∧ isD 9 (M 26 j))) (st : M 23 3 = M 83 8) (c1 : M2 27 1 = nI (if p < 8 then p + 1 else 8)) (c2 : M2 27 2 = nI ((q + 1) % 8)) (c3 : ∀ j, j < 8 → M2 (29 + 4 * q + 1) j = M 24 j ∧ M2 (29 + 4 * q + 2) j = M 25 j ∧ M2 (29 + 4 * q + 3) j = M 26 j) (c4 : M2 (29 + 4 * q) 3 = M 23 3) (c5 : ∀ k j, 29 ≤ k → k ≤ 60 → (k < 29 + 4 * q ∨ 29 + 4 * q + 3 < k) → M2 k j = M k j) (m1 : M2 83 21 = nI (if p < 8 then p + 1 else 8)) (m2 : ∀ j, j < 8 → M2 94 (25 * (if p < 8 then p else 7) + j) = M 90 j ∧ M2 94 (25 * (if p < 8 then p else 7) + 8 + j) = M 88 j ∧ M2 94 (25 * (if p < 8 then p else 7) + 16 + j) = M 89 j) (m3 : M2 94 (25 * (if p < 8 then p else 7) + 24) = M 83 8) (m4 : ∀ a, a < 25 * (if p < 8 then p else 7) → M2 94 a = M 94 (if p < 8 then a else a + 25)) : PsI M2 := by
  refine ⟨if p < 8 then p + 1 else 8, (q + 1) % 8, by split <;> omega, by omega, c1, c2, m1, fun i hi => ?_⟩
  by_cases hn : i = (if p < 8 then p else 7)
  · have e : ((q + 1) % 8 + 8 - (if p < 8 then p + 1 else 8) + i) % 8 = q := by
      rw [hn]
      split <;> omega
    rw [e, hn]
    refine ⟨fun j hj => ?_, ?_⟩
    · obtain ⟨x1, x2, x3⟩ := c3 j hj
      obtain ⟨y1, y2, y3⟩ := m2 j hj
      obtain ⟨⟨z1, z2⟩, ⟨z3, z4⟩, z5, z6⟩ := dg j hj
      rw [x1, x2, x3, y1, y2, y3]
      exact ⟨⟨z1, z2⟩, ⟨z3, z4⟩, z5, z6⟩
    · rw [c4, m3]
      exact st
  · by_cases hp8 : p < 8
    · rw [if_pos hp8] at hi hn ⊢
      rw [if_pos hp8] at m4
      have e : ((q + 1) % 8 + 8 - (p + 1) + i) % 8 = (q + 8 - p + i) % 8 := by omega
      rw [e]
      have hne : (q + 8 - p + i) % 8 ≠ q := by omega
      have hlt : (q + 8 - p + i) % 8 < 8 := Nat.mod_lt _ (by omega)
      obtain ⟨o1, o2⟩ := old i (by omega)
      refine ⟨fun j hj => ?_, ?_⟩
      · have h94 : ∀ x, x < 25 → M2 94 (25 * i + x) = M 94 (25 * i + x) := fun x hx => by rw [m4 (25 * i + x) (by omega), if_pos hp8]
        rw [c5 _ j (by omega) (by omega) (by omega), c5 _ j (by omega) (by omega) (by omega), c5 _ j (by omega) (by omega) (by omega), show 25 * i + 8 + j = 25 * i + (8 + j) by omega, show 25 * i + 16 + j = 25 * i + (16 + j) by omega, h94 (8 + j) (by omega), h94 (16 + j) (by omega), h94 j (by omega)]
        have := o1 j hj
        rw [show 25 * i + 8 + j = 25 * i + (8 + j) by omega, show 25 * i + 16 + j = 25 * i + (16 + j) by omega] at this
        exact this
      · rw [c5 _ 3 (by omega) (by omega) (by omega), m4 (25 * i + 24) (by omega), if_pos hp8]
        exact o2
    · obtain rfl : p = 8 := by omega
      rw [if_neg hp8] at hi hn ⊢
      rw [if_neg hp8] at m4
      have e : ((q + 1) % 8 + 8 - 8 + i) % 8 = (q + 8 - 8 + (i + 1)) % 8 := by omega
      rw [e]
      have hne : (q + 8 - 8 + (i + 1)) % 8 ≠ q := by omega
      have hlt : (q + 8 - 8 + (i + 1)) % 8 < 8 := Nat.mod_lt _ (by omega)
      obtain ⟨o1, o2⟩ := old (i + 1) (by omega)
      refine ⟨fun j hj => ?_, ?_⟩
      · have h94 : ∀ x, x < 25 → M2 94 (25 * i + x) = M 94 (25 * (i + 1) + x) := fun x hx => by rw [m4 (25 * i + x) (by omega), if_neg hp8, show 25 * i + x + 25 = 25 * (i + 1) + x by omega]
        rw [c5 _ j (by omega) (by omega) (by omega), c5 _ j (by omega) (by omega) (by omega), c5 _ j (by omega) (by omega) (by omega), show 25 * i + 8 + j = 25 * i + (8 + j) by omega, show 25 * i + 16 + j = 25 * i + (16 + j) by omega, h94 (8 + j) (by omega), h94 (16 + j) (by omega), h94 j (by omega)]
        have := o1 j hj
        rw [show 25 * (i + 1) + 8 + j = 25 * (i + 1) + (8 + j) by omega, show 25 * (i + 1) + 16 + j = 25 * (i + 1) + (16 + j) by omega] at this
        exact this
      · rw [c5 _ 3 (by omega) (by omega) (by omega), m4 (25 * i + 24) (by omega), if_neg hp8, show 25 * i + 24 + 25 = 25 * (i + 1) + 24 by omega]
        exact o2
theorem LoI.dg {M : MM} {n : Nat} {kd ld br ht dr : Nat → Nat} {hd tr : Nat} (h : LoI M n kd ld br ht dr hd tr) : ∀ j, j < 8 → (M 24 j = M 88 j ∧ isD 9 (M 24 j)) ∧ (M 25 j = M 89 j ∧ isD 9 (M 25 j)) ∧ (M 26 j = M 90 j ∧ isD 9 (M 26 j)) := by
  intro j hj
  obtain ⟨r1, r2, r3, r4, r5⟩ := h.rg hj
  exact ⟨⟨(h.lC hj).trans (h.lM hj).symm, _, r2, h.lC hj⟩, ⟨(h.bC hj).trans (h.bM hj).symm, _, r3, h.bC hj⟩, (h.hC hj).trans (h.hM hj).symm, _, r4, h.hC hj⟩
