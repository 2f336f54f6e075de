-- the reference reads a text
section PARSE
variable {o N fp : Nat} {C : Nat → Int32}
theorem m_dig {M : MM} {p lo hi : Nat} (ho : o + N ≤ 240) (h14 : M 83 14 = nI (o + p)) (hC : ∀ p, p < N → M 86 (o + p) = C p) (hp : p ≤ N) : f_X11_digit M (nI (o + N)) (nI lo) (nI hi) = some (if p < N ∧ inR (C p) (48 + lo) (48 + hi) = true then (C p - 48, up2 M 83 14 (nI (o + p + 1))) else (-9, M)) := by
  unfold f_X11_digit
  rw [h14]
  by_cases e : p < N
  · rw [if_neg (nI_ge (by omega) (by omega)), if_pos (ib_ok (by omega) (by omega)), nI_clamp (by omega), hC p e, show (48 : Int32) + nI lo = nI (48 + lo) from nI_add 48 lo, show (48 : Int32) + nI hi = nI (48 + hi) from nI_add 48 hi]
    have ew : f_X11_within M (C p) (nI (48 + lo)) (nI (48 + hi)) = some (b2i (inR (C p) (48 + lo) (48 + hi))) := w11 M (C p) (48 + lo) (48 + hi)
    rw [ew, br_s]
    cases q : inR (C p) (48 + lo) (48 + hi) with
    | false =>
      rw [if_pos (show b2i false = 0 from rfl), if_neg (by simp)]
    | true =>
      rw [if_neg (by decide), if_pos ⟨e, rfl⟩, nm_eq, up2_at, show nI (o + p) + (1 : Int32) = nI (o + p + 1) from nI_1 _, show nI (o + p + 1) - (1 : Int32) = nI (o + p) from pk_sub (b := 1) (by omega), if_pos (ib_ok (by omega) (by omega)), nI_clamp (by omega), up2_of (by omega), hC p e]
  · rw [if_pos (nI_le (by omega) (by omega)), if_neg (by omega)]
theorem m_sig {M : MM} {p : Nat} (ho : o + N ≤ 240) (h14 : M 83 14 = nI (o + p)) (hC : ∀ p, p < N → M 86 (o + p) = C p) (hp : p ≤ N) (c : Int32) : f_X11_isSign M (nI (o + N)) c = some (if p < N ∧ C p = c then (1, up2 M 83 14 (nI (o + p + 1))) else (0, M)) := by
  unfold f_X11_isSign
  rw [h14]
  by_cases e : p < N
  · rw [if_neg (nI_ge (by omega) (by omega)), if_pos (ib_ok (by omega) (by omega)), nI_clamp (by omega), hC p e]
    by_cases q : C p = c
    · rw [if_pos q, if_pos ⟨e, q⟩, nm_eq, show nI (o + p) + (1 : Int32) = nI (o + p + 1) from nI_1 _]
    · rw [if_neg q, if_neg (fun z => q z.2)]
  · rw [if_pos (nI_le (by omega) (by omega)), if_neg (by omega)]
theorem dg_n9 {c : Int32} {a b : Nat} (ha : 48 ≤ a) (hab : a ≤ b) (hb : b ≤ 57) (h : inR c a b = true) : ¬ c - (48 : Int32) = -9 := by
  obtain ⟨h1, h2, h3⟩ := dg_ok ha hab hb h
  rw [h1]
  exact n9_d _ (by omega)
/-- a digit read at a place not behind the first fault -/
theorem m_digF {M : MM} {p lo hi : Nat} (hF : FP N C fp) (ho : o + N ≤ 240) (h14 : M 83 14 = nI (o + p)) (hC : ∀ p, p < N → M 86 (o + p) = C p) (hp : p ≤ fp) (hok : ∀ c, okP p c = inR c (48 + lo) (48 + hi)) : f_X11_digit M (nI (o + N)) (nI lo) (nI hi) = some (if p < fp then (C p - 48, up2 M 83 14 (nI (o + p + 1))) else (-9, M)) := by
  obtain ⟨f1, f2, f3⟩ := hF
  rw [m_dig ho h14 hC (by omega)]
  by_cases e : p < fp
  · rw [if_pos e, if_pos ⟨by omega, by rw [← hok]; exact f2 p e⟩]
  · rw [if_neg e, if_neg]
    rintro ⟨z1, z2⟩
    have := f3 (by omega)
    rw [show fp = p by omega, hok, z2] at this
    cases this
theorem m_sigF {M : MM} {p : Nat} {c : Int32} (hF : FP N C fp) (ho : o + N ≤ 240) (h14 : M 83 14 = nI (o + p)) (hC : ∀ p, p < N → M 86 (o + p) = C p) (hp : p ≤ fp) (hok : ∀ x, okP p x = decide (x = c)) : f_X11_isSign M (nI (o + N)) c = some (if p < fp then (1, up2 M 83 14 (nI (o + p + 1))) else (0, M)) := by
  obtain ⟨f1, f2, f3⟩ := hF
  rw [m_sig ho h14 hC (by omega)]
  by_cases e : p < fp
  · rw [if_pos e, if_pos ⟨by omega, by have := f2 p e; rw [hok] at this; simpa using this⟩]
  · rw [if_neg e, if_neg]
    rintro ⟨z1, z2⟩
    have := f3 (by omega)
    rw [show fp = p by omega, hok, z2] at this
    simp at this
/-- four digits of a batten -/
theorem m_rbL (hF : FP N C fp) (ho : o + N ≤ 240) {c : Nat} (hc : c < 8) : ∀ (d q fuel : Nat) (M : MM), q + d = 5 → 1 ≤ q → d < fuel → M 83 14 = nI (o + (5 + 6 * c + q)) → M 83 18 = nI c → (∀ p, p < N → M 86 (o + p) = C p) → 5 + 6 * c + q ≤ fp → ∃ (r : Int32) (M' : MM), g_X11_readBatten_93 fuel M (nI (o + N)) (nI (5 * c)) (nI q) = some (r, M') ∧ (∀ k j, ¬ (k = 83 ∧ (j = 14 ∨ j = 18)) → ¬ (k = 92 ∧ 5 * c + q ≤ j) → M' k j = M k j) ∧ (10 + 6 * c ≤ fp → r = 1 ∧ M' 83 14 = nI (o + (4 + 6 * (c + 1))) ∧ M' 83 18 = nI (c + 1) ∧ ∀ x, q ≤ x → x < 5 → M' 92 (5 * c + x) = C (5 + 6 * c + x) - 48) ∧ (fp < 10 + 6 * c → r = 0 ∧ M' 83 14 = nI (o + fp)) := by
  intro d
  induction d with
  | zero =>
    intro q fuel M h1 h2 h3 h4 h5 hC h6
    obtain ⟨f, rfl⟩ : ∃ f, fuel = f + 1 := ⟨fuel - 1, by omega⟩
    obtain rfl : q = 5 := by omega
    rw [g_X11_readBatten_93, if_pos (show (5 : Int32) ≤ nI 5 by decide), nm_eq, h5, show nI c + (1 : Int32) = nI (c + 1) from nI_1 c]
    refine ⟨1, _, rfl, fun k j r1 r2 => up2_of (by omega), fun _ => ⟨rfl, ?_, up2_at _ _ _ _, fun x g1 g2 => by omega⟩, fun z => by omega⟩
    rw [up2_of (by omega), h4]
    congr 1
    omega
  | succ d ih =>
    intro q fuel M h1 h2 h3 h4 h5 hC h6
    obtain ⟨f, rfl⟩ : ∃ f, fuel = f + 1 := ⟨fuel - 1, by omega⟩
    have e5 : nI (5 * c) + nI q = nI (5 * c + q) := nI_add _ _
    have bo := ib_ok (show 5 * c + q < 40 by omega) (show 40 ≤ 2 ^ 31 by omega)
    have key : ∀ hi : Nat, (∀ x, okP (5 + 6 * c + q) x = inR x (48 + 0) (48 + hi)) → 48 + hi ≤ 57 → ∃ (r : Int32) (M' : MM), g_X11_readBatten_122 (g_X11_readBatten_93 f) M (nI (o + N)) (nI (5 * c)) (nI q) (nI hi) (0 : Int32) (nI (o + N)) (nI (5 * c) + nI q) = some (r, M') ∧ (∀ k j, ¬ (k = 83 ∧ (j = 14 ∨ j = 18)) → ¬ (k = 92 ∧ 5 * c + q ≤ j) → M' k j = M k j) ∧ (10 + 6 * c ≤ fp → r = 1 ∧ M' 83 14 = nI (o + (4 + 6 * (c + 1))) ∧ M' 83 18 = nI (c + 1) ∧ ∀ x, q ≤ x → x < 5 → M' 92 (5 * c + x) = C (5 + 6 * c + x) - 48) ∧ (fp < 10 + 6 * c → r = 0 ∧ M' 83 14 = nI (o + fp)) := by
      intro hi hok hhi
      have ed := m_digF (lo := 0) (hi := hi) hF ho h4 hC h6 hok
      unfold g_X11_readBatten_122
      rw [show (0 : Int32) = nI 0 from rfl, ed]
      by_cases e : 5 + 6 * c + q < fp
      · rw [if_pos e, bi_s, e5, if_pos bo, nI_clamp (by omega), nm_eq, if_pos bo, up2_at, if_neg (dg_n9 (a := 48 + 0) (b := 48 + hi) (by omega) (by omega) hhi (by rw [← hok]; exact hF.2.1 _ e)), show nI q + (1 : Int32) = nI (q + 1) from nI_1 q]
        generalize eM : up2 (up2 M 83 14 (nI (o + (5 + 6 * c + q) + 1))) 92 (5 * c + q) (C (5 + 6 * c + q) - 48) = Ma
        have U : ∀ k j, ¬ (k = 83 ∧ j = 14) → ¬ (k = 92 ∧ j = 5 * c + q) → Ma k j = M k j := fun k j r1 r2 => by rw [← eM, up2_of r2, up2_of r1]
        obtain ⟨r, M', i1, i2, i3, i4⟩ := ih (q + 1) f Ma (by omega) (by omega) (by omega) (by rw [← eM, up2_of (by omega), up2_at]; congr 1) (by rw [U _ _ (by omega) (by omega)]; exact h5) (fun p hp => by rw [U _ _ (by omega) (by omega)]; exact hC p hp) (by omega)
        refine ⟨r, M', i1, fun k j r1 r2 => by rw [i2 k j r1 (by omega), U k j (by omega) (by omega)], fun z => ⟨(i3 z).1, (i3 z).2.1, (i3 z).2.2.1, fun x g1 g2 => ?_⟩, i4⟩
        by_cases ex : x = q
        · subst ex
          rw [i2 92 (5 * c + x) (by omega) (by omega), ← eM, up2_at]
        · exact (i3 z).2.2.2 x (by omega) g2
      · rw [if_neg e, bi_s, e5, if_pos bo, nI_clamp (by omega), nm_eq, if_pos bo, up2_at, if_pos rfl]
        refine ⟨0, _, rfl, fun k j r1 r2 => up2_of (by omega), fun z => by omega, fun z => ⟨rfl, ?_⟩⟩
        rw [up2_of (by omega), h4]
        congr 2
        omega
    have hokb : ∀ x, okP (5 + 6 * c + q) x = if q = 4 then inR x 48 51 else inR x 48 57 := fun x => by
      rw [show 5 + 6 * c + q = 4 + 6 * c + (q + 1) by omega, okP_b hc (by omega), if_neg (by omega), if_neg (by omega)]
      by_cases e : q = 4
      · rw [if_pos (by omega), if_pos e]
      · rw [if_neg (by omega), if_neg e]
    rw [g_X11_readBatten_93, if_neg (show ¬ (5 : Int32) ≤ nI q from nI_ge (b := 5) (by omega) (by omega))]
    by_cases e4 : q = 4
    · rw [if_pos (show nI q = (4 : Int32) by rw [e4]; rfl)]
      exact key 3 (fun x => by rw [hokb, if_pos e4]) (by omega)
    · rw [if_neg (show ¬ nI q = (4 : Int32) from fun z => e4 (nI_inj (b := 4) (by omega) (by omega) z))]
      exact key 9 (fun x => by rw [hokb, if_neg e4]) (by omega)
theorem m_rb {M : MM} (hF : FP N C fp) (ho : o + N ≤ 240) {c : Nat} (hc : c < 8) (h4 : M 83 14 = nI (o + (5 + 6 * c))) (h5 : M 83 18 = nI c) (hC : ∀ p, p < N → M 86 (o + p) = C p) (h6 : 5 + 6 * c ≤ fp) : ∃ (r : Int32) (M' : MM), f_X11_readBatten M (nI (o + N)) = some (r, M') ∧ (∀ k j, ¬ (k = 83 ∧ (j = 14 ∨ j = 18)) → ¬ (k = 92 ∧ 5 * c ≤ j) → M' k j = M k j) ∧ (10 + 6 * c ≤ fp → r = 1 ∧ M' 83 14 = nI (o + (4 + 6 * (c + 1))) ∧ M' 83 18 = nI (c + 1) ∧ M' 92 (5 * c) = nI (knN (C (5 + 6 * c))) ∧ ∀ x, 1 ≤ x → x < 5 → M' 92 (5 * c + x) = C (5 + 6 * c + x) - 48) ∧ (fp < 10 + 6 * c → r = 0 ∧ M' 83 14 = nI (o + fp)) := by
  have bo := ib_ok (show 5 * c < 40 by omega) (show 40 ≤ 2 ^ 31 by omega)
  have hokb : ∀ x, okP (5 + 6 * c) x = (decide (x = 108) || decide (x = 97) || decide (x = 119)) := fun x => by
    rw [show 5 + 6 * c = 4 + 6 * c + 1 by omega, okP_b hc (by omega), if_neg (by omega), if_pos rfl]
  obtain ⟨f1, f2, f3⟩ := id hF
  have h21 : ∀ s0 : Int32, g_X11_readBatten_21 M (nI (o + N)) s0 = g_X11_readBatten_66 M (nI (o + N)) (nI (5 * c)) (if s0 = 108 then 0 else if s0 = 97 then 1 else if s0 = 119 then 2 else -9) (nI (5 * c)) := fun s0 => by
    unfold g_X11_readBatten_21
    rw [h5, show (5 : Int32) * nI c = nI (5 * c) from pk_mul 5 c, nm_eq]
    split
    · rfl
    · split
      · rfl
      · split <;> rfl
  have bad : 5 + 6 * c = fp → ∀ s0 : Int32, okP (5 + 6 * c) s0 = false → ∃ (r : Int32) (M' : MM), g_X11_readBatten_21 M (nI (o + N)) s0 = some (r, M') ∧ (∀ k j, ¬ (k = 83 ∧ (j = 14 ∨ j = 18)) → ¬ (k = 92 ∧ 5 * c ≤ j) → M' k j = M k j) ∧ (10 + 6 * c ≤ fp → r = 1 ∧ M' 83 14 = nI (o + (4 + 6 * (c + 1))) ∧ M' 83 18 = nI (c + 1) ∧ M' 92 (5 * c) = nI (knN (C (5 + 6 * c))) ∧ ∀ x, 1 ≤ x → x < 5 → M' 92 (5 * c + x) = C (5 + 6 * c + x) - 48) ∧ (fp < 10 + 6 * c → r = 0 ∧ M' 83 14 = nI (o + fp)) := by
    intro ef s0 hs
    rw [hokb] at hs
    simp only [Bool.or_eq_false_iff, decide_eq_false_iff_not] at hs
    rw [h21, if_neg hs.1.1, if_neg hs.1.2, if_neg hs.2]
    unfold g_X11_readBatten_66
    rw [if_pos bo, nI_clamp (by omega), nm_eq, if_pos bo, up2_at, if_pos rfl]
    refine ⟨0, _, rfl, fun k j r1 r2 => up2_of (by omega), fun z => by omega, fun z => ⟨rfl, ?_⟩⟩
    rw [up2_of (by omega), h4, ef]
  unfold f_X11_readBatten
  rw [h4]
  by_cases e : 5 + 6 * c < fp
  · rw [if_neg (nI_ge (by omega) (by omega)), if_pos (ib_ok (by omega) (by omega)), nI_clamp (by omega), hC _ (by omega), h21]
    have hk := f2 _ e
    rw [hokb] at hk
    have ek : (if C (5 + 6 * c) = 108 then (0 : Int32) else if C (5 + 6 * c) = 97 then 1 else if C (5 + 6 * c) = 119 then 2 else -9) = nI (knN (C (5 + 6 * c))) ∧ knN (C (5 + 6 * c)) ≤ 2 := by
      unfold knN
      by_cases z1 : C (5 + 6 * c) = 108
      · rw [if_pos z1, if_pos z1]; exact ⟨rfl, by omega⟩
      · rw [if_neg z1, if_neg z1]
        by_cases z2 : C (5 + 6 * c) = 97
        · rw [if_pos z2, if_pos z2]; exact ⟨rfl, by omega⟩
        · rw [if_neg z2, if_neg z2]
          have z3 : C (5 + 6 * c) = 119 := by simpa [z1, z2] using hk
          rw [if_pos z3]; exact ⟨rfl, by omega⟩
    rw [ek.1]
    unfold g_X11_readBatten_66
    rw [if_pos bo, nI_clamp (by omega), nm_eq, if_pos bo, up2_at, if_neg (n9_d _ (by have := ek.2; omega)), up2_of (by omega), h4, show nI (o + (5 + 6 * c)) + (1 : Int32) = nI (o + (5 + 6 * c) + 1) from nI_1 _, nm_eq]
    generalize eM : up2 (up2 M 92 (5 * c) (nI (knN (C (5 + 6 * c))))) 83 14 (nI (o + (5 + 6 * c) + 1)) = Ma
    have U : ∀ k j, ¬ (k = 83 ∧ j = 14) → ¬ (k = 92 ∧ j = 5 * c) → Ma k j = M k j := fun k j r1 r2 => by rw [← eM, up2_of r1, up2_of r2]
    obtain ⟨r, M', i1, i2, i3, i4⟩ := m_rbL hF ho hc 4 1 FU Ma (by omega) (by omega) (by have := FU_eq; omega) (by rw [← eM, up2_at]; congr 1) (by rw [U _ _ (by omega) (by omega)]; exact h5) (fun p hp => by rw [U _ _ (by omega) (by omega)]; exact hC p hp) (by omega)
    refine ⟨r, M', i1, fun k j r1 r2 => by rw [i2 k j r1 (by omega), U k j (by omega) (by omega)], fun z => ⟨(i3 z).1, (i3 z).2.1, (i3 z).2.2.1, ?_, (i3 z).2.2.2⟩, i4⟩
    rw [i2 92 (5 * c) (by omega) (by omega), ← eM, up2_of (by omega), up2_at]
  · by_cases e2 : fp = N
    · rw [if_pos (nI_le (by omega) (by omega))]
      exact bad (by omega) 0 (by rw [hokb]; decide)
    · rw [if_neg (nI_ge (by omega) (by omega)), if_pos (ib_ok (by omega) (by omega)), nI_clamp (by omega), hC _ (by omega)]
      refine bad (by omega) _ ?_
      have := f3 (by omega)
      rw [show 5 + 6 * c = fp by omega]
      exact this
/-- the battens, one behind another -/
theorem m_rlL (hF : FP N C fp) (ho : o + N ≤ 240) (hN : N ≤ 60) : ∀ (d c fuel : Nat) (M : MM), c + d = 8 → d < fuel → M 83 14 = nI (o + (4 + 6 * c)) → M 83 18 = nI c → (∀ p, p < N → M 86 (o + p) = C p) → 4 + 6 * c ≤ fp → ∃ M' : MM, g_X11_readLoft_86 fuel M (nI (o + N)) = some (b2i (decide (WH N fp)), M') ∧ (∀ k j, ¬ (k = 83 ∧ (j = 14 ∨ j = 18)) → ¬ (k = 92 ∧ 5 * c ≤ j) → M' k j = M k j) ∧ (WH N fp → M' 83 18 = nI ((N - 4) / 6) ∧ ∀ b, c ≤ b → b < (N - 4) / 6 → M' 92 (5 * b) = nI (knN (C (5 + 6 * b))) ∧ ∀ x, 1 ≤ x → x < 5 → M' 92 (5 * b + x) = C (5 + 6 * b + x) - 48) ∧ (¬ WH N fp → M' 83 14 = nI (o + fp)) := by
  obtain ⟨f1, f2, f3⟩ := id hF
  have f52 : fp ≤ 52 := by
    by_cases e : fp ≤ 52
    · exact e
    · have := f2 52 (by omega)
      unfold okP at this
      rw [if_neg (by omega)] at this
      cases this
  have fin : ∀ (c : Nat) (M : MM), 2 ≤ c → c ≤ 8 → M 83 14 = nI (o + (4 + 6 * c)) → M 83 18 = nI c → 4 + 6 * c ≤ fp → (c = 8 ∨ N ≤ 4 + 6 * c) → ∃ M' : MM, g_X11_readLoft_131 M (nI (o + N)) = some (b2i (decide (WH N fp)), M') ∧ (∀ k j, ¬ (k = 83 ∧ (j = 14 ∨ j = 18)) → ¬ (k = 92 ∧ 5 * c ≤ j) → M' k j = M k j) ∧ (WH N fp → M' 83 18 = nI ((N - 4) / 6) ∧ ∀ b, c ≤ b → b < (N - 4) / 6 → M' 92 (5 * b) = nI (knN (C (5 + 6 * b))) ∧ ∀ x, 1 ≤ x → x < 5 → M' 92 (5 * b + x) = C (5 + 6 * b + x) - 48) ∧ (¬ WH N fp → M' 83 14 = nI (o + fp)) := by
    intro c M c2 c8 h4 h5 h6 h7
    unfold g_X11_readLoft_131
    rw [h4]
    by_cases e : 4 + 6 * c = N
    · rw [if_pos (by rw [e])]
      have hw : WH N fp := ⟨by omega, by omega, by omega⟩
      refine ⟨M, by rw [decide_eq_true hw]; rfl, fun _ _ _ _ => rfl, fun _ => ⟨by rw [h5]; congr 1; omega, fun b g1 g2 => by omega⟩, fun z => absurd hw z⟩
    · have hw : ¬ WH N fp := fun z => by have := z.1; omega
      rw [if_neg (fun z => e (by have := nI_inj (by omega) (by omega) z; omega))]
      refine ⟨M, by rw [decide_eq_false hw]; rfl, fun _ _ _ _ => rfl, fun z => absurd z hw, fun _ => ?_⟩
      rw [h4]
      congr 2
      omega
  intro d
  induction d with
  | zero =>
    intro c fuel M h1 h2 h4 h5 hC h6
    obtain ⟨f, rfl⟩ : ∃ f, fuel = f + 1 := ⟨fuel - 1, by omega⟩
    obtain rfl : c = 8 := by omega
    rw [g_X11_readLoft_86, h5, if_neg (show ¬ nI 8 < (2 : Int32) by decide), if_pos (show (8 : Int32) ≤ nI 8 by decide)]
    exact fin 8 M (by omega) (by omega) h4 h5 h6 (Or.inl rfl)
  | succ d ih =>
    intro c fuel M h1 h2 h4 h5 hC h6
    obtain ⟨f, rfl⟩ : ∃ f, fuel = f + 1 := ⟨fuel - 1, by omega⟩
    have go : (c < 2 ∨ 4 + 6 * c < N) → ∃ M' : MM, g_X11_readLoft_111 (g_X11_readLoft_86 f) M (nI (o + N)) = some (b2i (decide (WH N fp)), M') ∧ (∀ k j, ¬ (k = 83 ∧ (j = 14 ∨ j = 18)) → ¬ (k = 92 ∧ 5 * c ≤ j) → M' k j = M k j) ∧ (WH N fp → M' 83 18 = nI ((N - 4) / 6) ∧ ∀ b, c ≤ b → b < (N - 4) / 6 → M' 92 (5 * b) = nI (knN (C (5 + 6 * b))) ∧ ∀ x, 1 ≤ x → x < 5 → M' 92 (5 * b + x) = C (5 + 6 * b + x) - 48) ∧ (¬ WH N fp → M' 83 14 = nI (o + fp)) := by
      intro hgo
      unfold g_X11_readLoft_111
      rw [m_sigF (p := 4 + 6 * c) (c := 59) hF ho h4 hC h6 (fun x => by rw [show 4 + 6 * c = 4 + 6 * c + 0 from rfl, okP_b (by omega) (by omega), if_pos rfl])]
      by_cases e : 4 + 6 * c < fp
      · rw [if_pos e, bi_s, if_neg (by decide)]
        generalize eM : up2 M 83 14 (nI (o + (4 + 6 * c) + 1)) = Ma
        have U : ∀ k j, ¬ (k = 83 ∧ j = 14) → Ma k j = M k j := fun k j r1 => by rw [← eM, up2_of r1]
        obtain ⟨r, Mb, b1, b2, b3, b4⟩ := m_rb (M := Ma) hF ho (c := c) (by omega) (by rw [← eM, up2_at]; congr 1; omega) (by rw [U _ _ (by omega)]; exact h5) (fun p hp => by rw [U _ _ (by omega)]; exact hC p hp) (by omega)
        rw [b1, bi_s]
        by_cases e2 : 10 + 6 * c ≤ fp
        · obtain ⟨r1, r2, r3, r4, r5⟩ := b3 e2
          rw [r1, if_neg (by decide)]
          obtain ⟨M', i1, i2, i3, i4⟩ := ih (c + 1) f Mb (by omega) (by omega) r2 r3 (fun p hp => by rw [b2 _ _ (by omega) (by omega), U _ _ (by omega)]; exact hC p hp) (by omega)
          refine ⟨M', i1, fun k j g1 g2 => by rw [i2 k j g1 (by omega), b2 k j g1 (by omega), U k j (by omega)], fun z => ⟨(i3 z).1, fun b g1 g2 => ?_⟩, i4⟩
          by_cases eb : b = c
          · subst eb
            refine ⟨by rw [i2 _ _ (by omega) (by omega)]; exact r4, fun x x1 x2 => by rw [i2 _ _ (by omega) (by omega)]; exact r5 x x1 x2⟩
          · exact (i3 z).2 b (by omega) g2
        · obtain ⟨r1, r2⟩ := b4 (by omega)
          have hw : ¬ WH N fp := fun z => by have := z.1; have := z.2.2; omega
          rw [r1, if_pos rfl]
          exact ⟨Mb, by rw [decide_eq_false hw]; rfl, fun k j g1 g2 => by rw [b2 k j g1 g2, U k j (by omega)], fun z => absurd z hw, fun _ => r2⟩
      · have hw : ¬ WH N fp := fun z => by have := z.1; have := z.2.1; omega
        rw [if_neg e, bi_s, if_pos rfl]
        refine ⟨M, by rw [decide_eq_false hw]; rfl, fun _ _ _ _ => rfl, fun z => absurd z hw, fun _ => ?_⟩
        rw [h4]
        congr 2
        omega
    rw [g_X11_readLoft_86, h5, h4]
    by_cases c2 : c < 2
    · rw [if_pos (show nI c < (2 : Int32) from nI_lt (b := 2) c2 (by omega))]
      exact go (Or.inl c2)
    · rw [if_neg (show ¬ nI c < (2 : Int32) from nI_nlt (b := 2) (by omega) (by omega)), if_neg (show ¬ (8 : Int32) ≤ nI c from nI_ge (b := 8) (by omega) (by omega))]
      by_cases e : 4 + 6 * c < N
      · rw [if_neg (nI_ge (by omega) (by omega))]
        exact go (Or.inr e)
      · rw [if_pos (nI_le (by omega) (by omega))]
        exact fin c M (by omega) (by omega) h4 h5 h6 (Or.inr (by omega))
theorem m_read1 {M : MM} (hF : FP N C fp) (ho : o + N ≤ 240) (hN : N ≤ 60) (h14 : M 83 14 = nI o) (hC : ∀ p, p < N → M 86 (o + p) = C p) : ∃ M' : MM, f_X11_readLoft M (nI (o + N)) = some (b2i (decide (WH N fp)), M') ∧ (∀ k j, ¬ (k = 83 ∧ 14 ≤ j ∧ j ≤ 18) → k ≠ 92 → M' k j = M k j) ∧ (WH N fp → M' 83 15 = C 1 - 48 ∧ M' 83 16 = C 2 - 48 ∧ M' 83 17 = C 3 - 48 ∧ M' 83 18 = nI ((N - 4) / 6) ∧ ∀ b, b < (N - 4) / 6 → M' 92 (5 * b) = nI (knN (C (5 + 6 * b))) ∧ ∀ x, 1 ≤ x → x < 5 → M' 92 (5 * b + x) = C (5 + 6 * b + x) - 48) ∧ (¬ WH N fp → M' 83 14 = nI (o + fp)) := by
  obtain ⟨f1, f2, f3⟩ := id hF
  have hw4 : fp < 16 → ¬ WH N fp := fun h z => by have := z.1; have := z.2.1; omega
  have stop : ∀ (p : Nat) (Ms : MM), ¬ p < fp → p ≤ fp → fp < 16 → Ms 83 14 = nI (o + p) → (∀ k j, ¬ (k = 83 ∧ 14 ≤ j ∧ j ≤ 18) → k ≠ 92 → Ms k j = M k j) → ∃ M' : MM, some ((0 : Int32), Ms) = some (b2i (decide (WH N fp)), M') ∧ (∀ k j, ¬ (k = 83 ∧ 14 ≤ j ∧ j ≤ 18) → k ≠ 92 → M' k j = M k j) ∧ (WH N fp → M' 83 15 = C 1 - 48 ∧ M' 83 16 = C 2 - 48 ∧ M' 83 17 = C 3 - 48 ∧ M' 83 18 = nI ((N - 4) / 6) ∧ ∀ b, b < (N - 4) / 6 → M' 92 (5 * b) = nI (knN (C (5 + 6 * b))) ∧ ∀ x, 1 ≤ x → x < 5 → M' 92 (5 * b + x) = C (5 + 6 * b + x) - 48) ∧ (¬ WH N fp → M' 83 14 = nI (o + fp)) := by
    intro p Ms h1 h2 h3 h4 h5
    refine ⟨Ms, by rw [decide_eq_false (hw4 h3)]; rfl, h5, fun z => absurd z (hw4 h3), fun _ => ?_⟩
    rw [h4]
    congr 2
    omega
  unfold f_X11_readLoft
  rw [nm_eq]
  generalize eM1 : up2 M 83 18 0 = M1
  have u1 : ∀ k j, ¬ (k = 83 ∧ j = 18) → M1 k j = M k j := fun k j r => by rw [← eM1, up2_of r]
  have hC1 : ∀ p, p < N → M1 86 (o + p) = C p := fun p hp => by rw [u1 _ _ (by omega)]; exact hC p hp
  rw [m_sigF (M := M1) (p := 0) (c := 102) hF ho (by rw [u1 _ _ (by omega)]; exact h14) hC1 (by omega) (fun x => rfl)]
  by_cases e0 : 0 < fp
  rotate_left
  · rw [if_neg e0, bi_s, if_pos rfl]
    exact stop 0 M1 e0 (by omega) (by omega) (by rw [u1 _ _ (by omega)]; exact h14) (fun k j r _ => u1 k j (by omega))
  rw [if_pos e0, bi_s, if_neg (by decide)]
  generalize eM3 : up2 M1 83 14 (nI (o + 0 + 1)) = M3
  have u3 : ∀ k j, ¬ (k = 83 ∧ j = 14) → M3 k j = M1 k j := fun k j r => by rw [← eM3, up2_of r]
  have hC3 : ∀ p, p < N → M3 86 (o + p) = C p := fun p hp => by rw [u3 _ _ (by omega)]; exact hC1 p hp
  have ed1 : f_X11_digit M3 (nI (o + N)) (1 : Int32) (6 : Int32) = _ := m_digF (M := M3) (p := 1) (lo := 1) (hi := 6) hF ho (by rw [← eM3, up2_at]) hC3 (by omega) (fun x => rfl)
  rw [ed1]
  by_cases e1 : 1 < fp
  rotate_left
  · rw [if_neg e1, bi_s, nm_eq, up2_at, if_pos rfl]
    exact stop 1 _ e1 (by omega) (by omega) (by rw [up2_of (by omega), ← eM3, up2_at]) (fun k j r _ => by rw [up2_of (by omega), u3 k j (by omega), u1 k j (by omega)])
  rw [if_pos e1, bi_s, nm_eq, up2_at, if_neg (dg_n9 (a := 49) (b := 54) (by omega) (by omega) (by omega) (f2 1 e1))]
  generalize eM8 : up2 (up2 M3 83 14 (nI (o + 1 + 1))) 83 15 (C 1 - 48) = M8
  have u8 : ∀ k j, ¬ (k = 83 ∧ (j = 14 ∨ j = 15)) → M8 k j = M3 k j := fun k j r => by rw [← eM8, up2_of (by omega), up2_of (by omega)]
  have hC8 : ∀ p, p < N → M8 86 (o + p) = C p := fun p hp => by rw [u8 _ _ (by omega)]; exact hC3 p hp
  have ed2 : f_X11_digit M8 (nI (o + N)) (1 : Int32) (9 : Int32) = _ := m_digF (M := M8) (p := 2) (lo := 1) (hi := 9) hF ho (by rw [← eM8, up2_of (by omega), up2_at]) hC8 (by omega) (fun x => rfl)
  rw [ed2]
  by_cases e2 : 2 < fp
  rotate_left
  · rw [if_neg e2, bi_s, nm_eq, up2_at, if_pos rfl]
    exact stop 2 _ e2 (by omega) (by omega) (by rw [up2_of (by omega), ← eM8, up2_of (by omega), up2_at]) (fun k j r _ => by rw [up2_of (by omega), u8 k j (by omega), u3 k j (by omega), u1 k j (by omega)])
  rw [if_pos e2, bi_s, nm_eq, up2_at, if_neg (dg_n9 (a := 49) (b := 57) (by omega) (by omega) (by omega) (f2 2 e2))]
  generalize eM12 : up2 (up2 M8 83 14 (nI (o + 2 + 1))) 83 16 (C 2 - 48) = M12
  have u12 : ∀ k j, ¬ (k = 83 ∧ (j = 14 ∨ j = 16)) → M12 k j = M8 k j := fun k j r => by rw [← eM12, up2_of (by omega), up2_of (by omega)]
  have hC12 : ∀ p, p < N → M12 86 (o + p) = C p := fun p hp => by rw [u12 _ _ (by omega)]; exact hC8 p hp
  have ed3 : f_X11_digit M12 (nI (o + N)) (0 : Int32) (9 : Int32) = _ := m_digF (M := M12) (p := 3) (lo := 0) (hi := 9) hF ho (by rw [← eM12, up2_of (by omega), up2_at]) hC12 (by omega) (fun x => rfl)
  rw [ed3]
  by_cases e3 : 3 < fp
  rotate_left
  · rw [if_neg e3, bi_s, nm_eq, up2_at, if_pos rfl]
    exact stop 3 _ e3 (by omega) (by omega) (by rw [up2_of (by omega), ← eM12, up2_of (by omega), up2_at]) (fun k j r _ => by rw [up2_of (by omega), u12 k j (by omega), u8 k j (by omega), u3 k j (by omega), u1 k j (by omega)])
  rw [if_pos e3, bi_s, nm_eq, up2_at, if_neg (dg_n9 (a := 48) (b := 57) (by omega) (by omega) (by omega) (f2 3 e3))]
  generalize eM16 : up2 (up2 M12 83 14 (nI (o + 3 + 1))) 83 17 (C 3 - 48) = M16
  have u16 : ∀ k j, ¬ (k = 83 ∧ (j = 14 ∨ j = 17)) → M16 k j = M12 k j := fun k j r => by rw [← eM16, up2_of (by omega), up2_of (by omega)]
  have hC16 : ∀ p, p < N → M16 86 (o + p) = C p := fun p hp => by rw [u16 _ _ (by omega)]; exact hC12 p hp
  obtain ⟨M', i1, i2, i3, i4⟩ := m_rlL hF ho hN 8 0 FU M16 (by omega) (by have := FU_eq; omega) (by rw [← eM16, up2_of (by omega), up2_at]) (by rw [u16 _ _ (by omega), u12 _ _ (by omega), u8 _ _ (by omega), u3 _ _ (by omega), ← eM1, up2_at]; rfl) hC16 (by omega)
  refine ⟨M', i1, fun k j r1 r2 => by rw [i2 k j (by omega) (by omega), u16 k j (by omega), u12 k j (by omega), u8 k j (by omega), u3 k j (by omega), u1 k j (by omega)], fun z => ⟨?_, ?_, ?_, (i3 z).1, fun b hb => (i3 z).2 b (by omega) hb⟩, i4⟩
  · rw [i2 _ _ (by omega) (by omega), u16 _ _ (by omega), u12 _ _ (by omega), ← eM8, up2_at]
  · rw [i2 _ _ (by omega) (by omega), u16 _ _ (by omega), ← eM12, up2_at]
  · rw [i2 _ _ (by omega) (by omega), ← eM16, up2_at]
end PARSE
