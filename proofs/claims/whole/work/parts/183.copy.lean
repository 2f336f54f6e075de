/-- the reference's copy, from the front -/
theorem cu_loop {k i o j n : Nat} (hS : 60 * k + i + n ≤ 240) (hD : 60 * o + j + n ≤ 240) (ok : ∀ q, q < n → 60 * k + i + q < 60 * o + j ∨ 60 * o + j + q ≤ 60 * k + i + q) : ∀ (d q fuel : Nat) (M : MM), q + d = n → d < fuel → ∃ M' : MM, g_X11_copy_166 fuel M (nI k) (nI i) (nI o) (nI j) (nI n) (0 : Int32) (nI q) = some (nI n, M') ∧ (∀ a, q ≤ a → a < n → M' 86 (60 * o + j + a) = M 86 (60 * k + i + a)) ∧ ∀ b a, ¬ (b = 86 ∧ 60 * o + j + q ≤ a ∧ a < 60 * o + j + n) → M' b a = M b a := by
  intro d
  induction d with
  | zero =>
    intro q fuel M h1 h2
    obtain ⟨f, rfl⟩ : ∃ f, fuel = f + 1 := ⟨fuel - 1, by omega⟩
    obtain rfl : q = n := by omega
    rw [g_X11_copy_166, if_pos (nI_le (Nat.le_refl q) (by omega))]
    exact ⟨M, rfl, fun a g1 g2 => by omega, fun b a _ => rfl⟩
  | succ d ih =>
    intro q fuel M h1 h2
    obtain ⟨f, rfl⟩ : ∃ f, fuel = f + 1 := ⟨fuel - 1, by omega⟩
    have e1 : (60 : Int32) * nI k + nI i + nI q = nI (60 * k + i + q) := by rw [show (60 : Int32) * nI k = nI (60 * k) from pk_mul 60 k, nI_add, nI_add]
    have e2 : (60 : Int32) * nI o + nI j + nI q = nI (60 * o + j + q) := by rw [show (60 : Int32) * nI o = nI (60 * o) from pk_mul 60 o, nI_add, nI_add]
    rw [g_X11_copy_166, if_neg (nI_ge (by omega) (by omega)), if_pos rfl]
    unfold g_X11_copy_190
    simp only [e1, e2, if_pos (ib_ok (show 60 * k + i + q < 240 by omega) (by omega)), if_pos (ib_ok (show 60 * o + j + q < 240 by omega) (by omega)), nI_clamp (show 60 * k + i + q < 2 ^ 31 by omega), nI_clamp (show 60 * o + j + q < 2 ^ 31 by omega), nm_eq, show nI q + (1 : Int32) = nI (q + 1) from nI_1 q]
    obtain ⟨M', g0, g1, g2⟩ := ih (q + 1) f (up2 M 86 (60 * o + j + q) (M 86 (60 * k + i + q))) (by omega) (by omega)
    refine ⟨M', g0, fun a a1 a2 => ?_, fun b a r => ?_⟩
    · by_cases ha : a = q
      · subst ha
        rw [g2 86 _ (by omega), up2_at]
      · have := ok a a2
        rw [g1 a (by omega) a2, up2_of (by omega)]
    · rw [g2 b a (by omega), up2_of (by omega)]
/-- the reference's copy, from the back -/
theorem cd_loop {k i o j n : Nat} (hS : 60 * k + i + n ≤ 240) (hD : 60 * o + j + n ≤ 240) (ok : ∀ q, q < n → 60 * k + i + q ≤ 60 * o + j + q ∨ 60 * o + j + n ≤ 60 * k + i + q) : ∀ (d q fuel : Nat) (M : MM), q + d = n → d < fuel → ∃ M' : MM, g_X11_copy_166 fuel M (nI k) (nI i) (nI o) (nI j) (nI n) (1 : Int32) (nI q) = some (nI n, M') ∧ (∀ a, a < d → M' 86 (60 * o + j + a) = M 86 (60 * k + i + a)) ∧ ∀ b a, ¬ (b = 86 ∧ 60 * o + j ≤ a ∧ a < 60 * o + j + d) → M' b a = M b a := by
  intro d
  induction d with
  | zero =>
    intro q fuel M h1 h2
    obtain ⟨f, rfl⟩ : ∃ f, fuel = f + 1 := ⟨fuel - 1, by omega⟩
    obtain rfl : q = n := by omega
    rw [g_X11_copy_166, if_pos (nI_le (Nat.le_refl q) (by omega))]
    exact ⟨M, rfl, fun a g1 => by omega, fun b a _ => rfl⟩
  | succ d ih =>
    intro q fuel M h1 h2
    obtain ⟨f, rfl⟩ : ∃ f, fuel = f + 1 := ⟨fuel - 1, by omega⟩
    have e0 : nI n - (1 : Int32) - nI q = nI d := by
      rw [show nI n - (1 : Int32) = nI (n - 1) from pk_sub (b := 1) (by omega), pk_sub (by omega)]
      congr 1
      omega
    have e1 : (60 : Int32) * nI k + nI i + nI d = nI (60 * k + i + d) := by rw [show (60 : Int32) * nI k = nI (60 * k) from pk_mul 60 k, nI_add, nI_add]
    have e2 : (60 : Int32) * nI o + nI j + nI d = nI (60 * o + j + d) := by rw [show (60 : Int32) * nI o = nI (60 * o) from pk_mul 60 o, nI_add, nI_add]
    rw [g_X11_copy_166, if_neg (nI_ge (by omega) (by omega)), if_neg (by decide), e0]
    unfold g_X11_copy_190
    simp only [e1, e2, if_pos (ib_ok (show 60 * k + i + d < 240 by omega) (by omega)), if_pos (ib_ok (show 60 * o + j + d < 240 by omega) (by omega)), nI_clamp (show 60 * k + i + d < 2 ^ 31 by omega), nI_clamp (show 60 * o + j + d < 2 ^ 31 by omega), nm_eq, show nI q + (1 : Int32) = nI (q + 1) from nI_1 q]
    obtain ⟨M', g0, g1, g2⟩ := ih (q + 1) f (up2 M 86 (60 * o + j + d) (M 86 (60 * k + i + d))) (by omega) (by omega)
    refine ⟨M', g0, fun a a1 => ?_, fun b a r => ?_⟩
    · by_cases ha : a = d
      · subst ha
        rw [g2 86 _ (by omega), up2_at]
      · have := ok a (by omega)
        rw [g1 a (by omega), up2_of (by omega)]
    · rw [g2 b a (by omega), up2_of (by omega)]
def cpC (L : Nat) (i n : Int32) : Bool := decide (¬ i < 0 ∧ ¬ nI L < i ∧ ¬ nI L - i < n)
theorem cpC_yes {L : Nat} (hL : L ≤ 60) {i n : Int32} (hn : ¬ n < 0) (h : cpC L i n = true) : ∃ a b : Nat, i = nI a ∧ n = nI b ∧ a + b ≤ L := by
  have h : ¬ i < 0 ∧ ¬ nI L < i ∧ ¬ nI L - i < n := of_decide_eq_true h
  obtain ⟨a, a1, a2⟩ := (isD_iff (m := L) (by omega)).mpr ⟨Int32.not_lt.mp h.1, Int32.not_lt.mp h.2.1⟩
  subst a2
  have h3 := Int32.not_lt.mp h.2.2
  rw [pk_sub a1] at h3
  obtain ⟨b, b1, b2⟩ := (isD_iff (m := L - a) (by omega)).mpr ⟨Int32.not_lt.mp hn, h3⟩
  exact ⟨a, b, rfl, b2, by omega⟩
theorem c_hasC2 {M : MM} {k0 L : Nat} (h : M k0 3 = nI L) (v1 v2 : Int32) : f_X7_hasCells M k0 v1 v2 = some (b2i (cpC L v1 v2)) := by
  rw [c_hasC h]
  unfold cpC b2i
  by_cases h1 : v1 < 0
  · simp [h1]
  · by_cases h2 : nI L < v1
    · simp [h1, h2]
    · by_cases h3 : nI L - v1 < v2
      · simp [h1, h2, h3]
      · simp [h1, h2, h3]
theorem s_copy : St_copy Inv := by
  intro M h a1 a2 a3 a4 a5
  obtain ⟨n, kd, ld, br, ht, dr, hd, tr, hL, hS, h3, h4, h5, h6⟩ := id h
  cases hin : inR a1 0 3 with
  | false => exact ⟨-1, up2 M 0 11 0, up2 (up2 M 0 11 0) 83 0 0, by simp [f_X10_copy, nm_eq, q_X10_isSheet, hin, br_s, b2i0], by simp [f_X11_copy, nm_eq, q_X11_isSheet, hin, br_s, b2i0], h.flt1 0⟩
  | true =>
    cases hin3 : inR a3 0 3 with
    | false => exact ⟨-1, up2 M 0 11 0, up2 (up2 M 0 11 0) 83 0 0, by simp [f_X10_copy, nm_eq, q_X10_isSheet, hin, hin3, br_s, b2i0], by simp [f_X11_copy, nm_eq, q_X11_isSheet, hin, hin3, br_s, b2i0], h.flt1 0⟩
    | true =>
      obtain ⟨k, k3, rfl⟩ := inR_yes0 (by omega) hin
      obtain ⟨o, o3, rfl⟩ := inR_yes0 (by omega) hin3
      have bk : ib (nI k) 4 = true := ib_ok (by omega) (by omega)
      have bo : ib (nI o) 4 = true := ib_ok (by omega) (by omega)
      have cl := nI_clamp (show k < 2 ^ 31 by omega)
      have co := nI_clamp (show o < 2 ^ 31 by omega)
      obtain ⟨g1, g2, g3, g4, L, g5, g6, g7⟩ := h3 k (by omega)
      obtain ⟨f1, f2, f3, f4, L', f5, f6, f7⟩ := h3 o (by omega)
      have r0 : ∀ a j, 0 < a → up2 M 0 11 0 a j = M a j := fun a j ha => up2_of (by omega)
      -- a fault f on both sides
      have bad : ∀ f : Int32, f_X10_copy M (nI k) a2 (nI o) a4 a5 = some ((-10 : Int32) - f, up2 (up2 M 0 11 0) 0 11 f) → (∀ M' : MM, M' 84 k = M 84 k → M' 84 o = M 84 o → M' 85 k = nI L → M' 85 o = nI L' → f_X11_copy M' (nI k) a2 (nI o) a4 a5 = some ((-10 : Int32) - f, up2 (up2 M' 83 0 0) 83 0 f)) → ∃ r : Int32, ∃ M1 : MM, ∃ M2 : MM, f_X10_copy M (nI k) a2 (nI o) a4 a5 = some (r, M1) ∧ f_X11_copy M1 (nI k) a2 (nI o) a4 a5 = some (r, M2) ∧ Inv M2 := by
        intro f e1 key
        exact ⟨_, _, _, e1, key _ (by rw [up2_of (by omega), up2_of (by omega)]) (by rw [up2_of (by omega), up2_of (by omega)]) (by rw [up2_of (by omega), up2_of (by omega), g4, g6]) (by rw [up2_of (by omega), up2_of (by omega), f4, f6]), h.flt 0 0 f f rfl⟩
      have y83 : ∀ (M' : MM) (a b : Nat), 83 < a → up2 M' 83 0 0 a b = M' a b := fun M' a b ha => up2_of (by omega)
      rcases g1 with g1 | g1
      · rw [if_pos g1] at g2
        refine bad 1 ?_ (fun M' y1 y2 y3 y4 => ?_)
        · unfold f_X10_copy
          simp only [nm_eq, q_X10_isSheet, hin, hin3, br_s, b2i0, Bool.true_eq_false, if_false, if_pos bk, if_pos bo, cl, co, r0 _ _ (show 0 < 2 + 2 * k by omega), g1, if_true, fl10, bi_s]
        · unfold f_X11_copy
          simp only [nm_eq, q_X11_isSheet, hin, hin3, br_s, b2i0, Bool.true_eq_false, if_false, if_pos bk, if_pos bo, cl, co, y83 M' _ _ (show 83 < 84 by omega), y1, g2, if_true, fl11, bi_s]
      · have gne : ¬ M (2 + 2 * k) 1 = 0 := by rw [g1]; decide
        rw [if_neg gne] at g2
        have g9 : ¬ M (2 + 2 * k) 2 = -9 := isD2_ne (g3 g1)
        rcases f1 with f1 | f1
        · rw [if_pos f1] at f2
          refine bad 1 ?_ (fun M' y1 y2 y3 y4 => ?_)
          · unfold f_X10_copy
            simp only [nm_eq, q_X10_isSheet, hin, hin3, br_s, b2i0, Bool.true_eq_false, if_false, if_pos bk, if_pos bo, cl, co, r0 _ _ (show 0 < 2 + 2 * k by omega), r0 _ _ (show 0 < 2 + 2 * o by omega), if_neg gne, f1, if_true, fl10, bi_s]
          · unfold f_X11_copy
            simp only [nm_eq, q_X11_isSheet, hin, hin3, br_s, b2i0, Bool.true_eq_false, if_false, if_pos bk, if_pos bo, cl, co, y83 M' _ _ (show 83 < 84 by omega), y1, y2, g2, if_neg g9, f2, if_true, fl11, bi_s]
        · have fne : ¬ M (2 + 2 * o) 1 = 0 := by rw [f1]; decide
          rw [if_neg fne] at f2
          have f9 : ¬ M (2 + 2 * o) 2 = -9 := isD2_ne (f3 f1)
          by_cases hla : M (2 + 2 * k) 2 = M (2 + 2 * o) 2
          · have hC1 : f_X7_hasCells (up2 M 0 11 0) (2 + 2 * k) a2 a5 = some (b2i (cpC L a2 a5)) := c_hasC2 (by rw [r0 _ _ (by omega)]; exact g6) a2 a5
            have hC2 : f_X7_hasCells (up2 M 0 11 0) (2 + 2 * o) a4 a5 = some (b2i (cpC L' a4 a5)) := c_hasC2 (by rw [r0 _ _ (by omega)]; exact f6) a4 a5
            by_cases hok : ¬ a5 < 0 ∧ cpC L a2 a5 = true ∧ cpC L' a4 a5 = true
            · obtain ⟨h50, ok1, ok2⟩ := hok
              obtain ⟨i, m, rfl, rfl, him⟩ := cpC_yes g5 h50 ok1
              obtain ⟨j, m', rfl, em, hjm⟩ := cpC_yes f5 h50 ok2
              have hmm : m' = m := nI_inj (by omega) (by omega) em.symm
              subst hmm
              have hcp : cpok (nI i) (nI j) (nI m') 60 60 = true := by
                unfold cpok
                rw [nI_clamp (by omega), nI_clamp (by omega), nI_clamp (by omega)]
                have z1 : ¬ nI i < 0 := nI_pos (by omega)
                have z2 : ¬ nI j < 0 := nI_pos (by omega)
                have z3 : i + m' ≤ 60 := by omega
                have z4 : j + m' ≤ 60 := by omega
                simp [z1, z2, h50, z3, z4]
              have e1 : f_X10_copy M (nI k) (nI i) (nI o) (nI j) (nI m') = some (nI m', upR (up2 M 0 11 0) (2 + 2 * o + 1) (va_cpy (M (2 + 2 * k + 1)) (M (2 + 2 * o + 1)) i j m')) := by
                unfold f_X10_copy
                simp only [nm_eq, q_X10_isSheet, hin, hin3, br_s, b2i0, Bool.true_eq_false, if_false, if_pos bk, if_pos bo, cl, co, r0 _ _ (show 0 < 2 + 2 * k by omega), r0 _ _ (show 0 < 2 + 2 * o by omega), if_neg gne, if_neg fne, if_pos hla, if_neg h50, hC1, hC2, ok1, ok2, if_pos hcp, nI_clamp (show i < 2 ^ 31 by omega), nI_clamp (show j < 2 ^ 31 by omega), nI_clamp (show m' < 2 ^ 31 by omega), up2_ne (show 2 + 2 * k + 1 ≠ 0 by omega), up2_ne (show 2 + 2 * o + 1 ≠ 0 by omega)]
              generalize eM1 : upR (up2 M 0 11 0) (2 + 2 * o + 1) (va_cpy (M (2 + 2 * k + 1)) (M (2 + 2 * o + 1)) i j m') = M1 at e1
              have u1 : ∀ a b, a ≠ 2 + 2 * o + 1 → ¬ (a = 0 ∧ b = 11) → M1 a b = M a b := fun a b c1 c2 => by rw [← eM1, upR_ne c1, up2_of c2]
              have lp : ∃ M2 : MM, f_X11_copy M1 (nI k) (nI i) (nI o) (nI j) (nI m') = some (nI m', M2) ∧ M2 83 0 = 0 ∧ (∀ a, a < m' → M2 86 (60 * o + j + a) = M 86 (60 * k + i + a)) ∧ ∀ b a, ¬ (b = 86 ∧ 60 * o + j ≤ a ∧ a < 60 * o + j + m') → ¬ (b = 83 ∧ a = 0) → M2 b a = M1 b a := by
                have v86 : ∀ a, up2 M1 83 0 0 86 a = M 86 a := fun a => by rw [up2_of (by omega), u1 86 a (by omega) (by omega)]
                have w84 : ∀ b, M1 84 b = M 84 b := fun b => u1 84 b (by omega) (by omega)
                have w85k : M1 85 k = nI L := by rw [u1 85 k (by omega) (by omega), g4, g6]
                have w85o : M1 85 o = nI L' := by rw [u1 85 o (by omega) (by omega), f4, f6]
                have p1 : ¬ nI i < 0 := nI_pos (by omega)
                have p2 : ¬ nI j < 0 := nI_pos (by omega)
                have p3 : ¬ nI L < nI i := nI_nlt (by omega) (by omega)
                have p4 : ¬ nI L' < nI j := nI_nlt (by omega) (by omega)
                have p5 : ¬ nI L - nI i < nI m' := by rw [pk_sub (by omega)]; exact nI_nlt (by omega) (by omega)
                have p6 : nI m' ≤ nI L' - nI j := by rw [pk_sub (by omega)]; exact nI_le (by omega) (by omega)
                have hla2 : M 84 k = M 84 o := by rw [g2, f2, hla]
                have unf : f_X11_copy M1 (nI k) (nI i) (nI o) (nI j) (nI m') = if nI j ≤ nI i then g_X11_copy_166 FU (up2 M1 83 0 0) (nI k) (nI i) (nI o) (nI j) (nI m') (0 : Int32) (0 : Int32) else g_X11_copy_166 FU (up2 M1 83 0 0) (nI k) (nI i) (nI o) (nI j) (nI m') (1 : Int32) (0 : Int32) := by
                  unfold f_X11_copy g_X11_copy_110
                  simp only [nm_eq, q_X11_isSheet, hin, hin3, br_s, b2i0, Bool.true_eq_false, if_false, if_pos bk, if_pos bo, cl, co, y83 M1 _ _ (show 83 < 84 by omega), y83 M1 _ _ (show 83 < 85 by omega), w84, w85k, w85o, show ¬ M 84 k = -9 from by rw [g2]; exact g9, show ¬ M 84 o = -9 from by rw [f2]; exact f9, if_pos hla2, if_neg p1, if_neg p2, if_neg h50, if_neg p3, if_neg p4, show ¬ ((1 : Int32) = 0) by decide, if_neg p5, if_pos p6]
                rw [unf]
                by_cases hij : j ≤ i
                · rw [if_pos (nI_le hij (by omega))]
                  obtain ⟨M2, z0, z1, z2⟩ := cu_loop (k := k) (i := i) (o := o) (j := j) (n := m') (by omega) (by omega) (fun q hq => by omega) m' 0 FU (up2 M1 83 0 0) (by omega) (by have : FU = 7000 := rfl; omega)
                  refine ⟨M2, z0, by rw [z2 83 0 (by omega), up2_at], fun a ha => by rw [z1 a (by omega) ha, v86], fun b a c1 c2 => by rw [z2 b a (by omega), up2_of c2]⟩
                · rw [if_neg (nI_ge (by omega) (by omega))]
                  obtain ⟨M2, z0, z1, z2⟩ := cd_loop (k := k) (i := i) (o := o) (j := j) (n := m') (by omega) (by omega) (fun q hq => by omega) m' 0 FU (up2 M1 83 0 0) (by omega) (by have : FU = 7000 := rfl; omega)
                  refine ⟨M2, z0, by rw [z2 83 0 (by omega), up2_at], fun a ha => by rw [z1 a ha, v86], fun b a c1 c2 => by rw [z2 b a (by omega), up2_of c2]⟩
              obtain ⟨M2, e2, d0, d1, d2⟩ := lp
              refine ⟨nI m', M1, M2, e1, e2, ?_⟩
              have au : ∀ a b, ¬ (a = 86 ∧ 60 * o + j ≤ b ∧ b < 60 * o + j + m') → ¬ (a = 83 ∧ b = 0) → a ≠ 2 + 2 * o + 1 → ¬ (a = 0 ∧ b = 11) → M2 a b = M a b := fun a b c1 c2 c3 c4 => by rw [d2 a b c1 c2, u1 a b c3 c4]
              refine h.chgSh (fun a b t1 t2 => au a b (by unfold relSh at t2; omega) (by unfold relMs at t1; omega) (by unfold relSh at t2; omega) (by unfold relMs at t1; omega)) ⟨?_, ?_, ?_⟩ (fun k' hk' => ?_)
              · rw [au 23 3 (by omega) (by omega) (by omega) (by omega), au 83 8 (by omega) (by omega) (by omega) (by omega)]; exact hS.1
              · rw [d2 0 11 (by omega) (by omega), ← eM1, upR_ne (by omega), up2_at, d0]
              · rw [au 0 10 (by omega) (by omega) (by omega) (by omega), au 83 1 (by omega) (by omega) (by omega) (by omega)]; exact hS.2.2
              · obtain ⟨x1, x2, x3, x4, L2, x5, x6, x7⟩ := h3 k' hk'
                rw [au (2 + 2 * k') 1 (by omega) (by omega) (by omega) (by omega), au (2 + 2 * k') 2 (by omega) (by omega) (by omega) (by omega), au (2 + 2 * k') 3 (by omega) (by omega) (by omega) (by omega), au 84 k' (by omega) (by omega) (by omega) (by omega), au 85 k' (by omega) (by omega) (by omega) (by omega)]
                refine ⟨x1, x2, x3, x4, L2, x5, x6, fun b hb => ?_⟩
                by_cases hko : k' = o
                · subst hko
                  have r1 : M2 (3 + 2 * k') b = va_cpy (M (2 + 2 * k + 1)) (M (2 + 2 * k' + 1)) i j m' b := by rw [d2 _ b (by omega) (by omega), ← eM1, show 3 + 2 * k' = 2 + 2 * k' + 1 by omega, upR_at]
                  rw [r1]
                  unfold va_cpy
                  by_cases hb2 : j ≤ b ∧ b < j + m'
                  · rw [if_pos hb2]
                    have := d1 (b - j) (by omega)
                    rw [show 60 * k' + b = 60 * k' + j + (b - j) by omega, this, show 2 + 2 * k + 1 = 3 + 2 * k by omega, g7 (i + (b - j)) (by omega), show 60 * k + i + (b - j) = 60 * k + (i + (b - j)) by omega]
                  · rw [if_neg hb2, show 2 + 2 * k' + 1 = 3 + 2 * k' by omega, au 86 (60 * k' + b) (by omega) (by omega) (by omega) (by omega)]
                    exact x7 b hb
                · rw [au (3 + 2 * k') b (by omega) (by omega) (by omega) (by omega), au 86 (60 * k' + b) (by omega) (by omega) (by omega) (by omega)]
                  exact x7 b hb
            · refine bad 3 ?_ (fun M' y1 y2 y3 y4 => ?_)
              · unfold f_X10_copy
                simp only [nm_eq, q_X10_isSheet, hin, hin3, br_s, b2i0, Bool.true_eq_false, if_false, if_pos bk, if_pos bo, cl, co, r0 _ _ (show 0 < 2 + 2 * k by omega), r0 _ _ (show 0 < 2 + 2 * o by omega), if_neg gne, if_neg fne, if_pos hla, fl10, bi_s, hC1, hC2]
                by_cases z1 : a5 < 0
                · rw [if_pos z1]
                · rw [if_neg z1]
                  cases z2 : cpC L a2 a5 with
                  | false => rw [if_pos rfl]
                  | true =>
                    cases z3 : cpC L' a4 a5 with
                    | false => rw [if_neg (by decide), if_pos rfl]
                    | true => exact absurd ⟨z1, z2, z3⟩ hok
              · have hla2 : M 84 k = M 84 o := by rw [g2, f2, hla]
                unfold f_X11_copy g_X11_copy_110
                simp only [nm_eq, q_X11_isSheet, hin, hin3, br_s, b2i0, Bool.true_eq_false, if_false, if_pos bk, if_pos bo, cl, co, y83 M' _ _ (show 83 < 84 by omega), y83 M' _ _ (show 83 < 85 by omega), y1, y2, y3, y4, show ¬ M 84 k = -9 from by rw [g2]; exact g9, show ¬ M 84 o = -9 from by rw [f2]; exact f9, if_pos hla2, if_true, show ¬ ((1 : Int32) = 0) by decide, fl11, bi_s]
                by_cases z1 : a2 < 0
                · rw [if_pos z1]
                · by_cases z2 : a4 < 0
                  · rw [if_neg z1, if_pos z2]
                  · by_cases z3 : a5 < 0
                    · rw [if_neg z1, if_neg z2, if_pos z3]
                    · by_cases z4 : nI L < a2
                      · rw [if_neg z1, if_neg z2, if_neg z3, if_pos z4]
                      · by_cases z5 : nI L' < a4
                        · rw [if_neg z1, if_neg z2, if_neg z3, if_neg z4, if_pos z5]
                        · by_cases z6 : nI L - a2 < a5
                          · rw [if_neg z1, if_neg z2, if_neg z3, if_neg z4, if_neg z5, if_pos z6]
                          · have z7 : ¬ a5 ≤ nI L' - a4 := fun q => hok ⟨z3, decide_eq_true ⟨z1, z4, z6⟩, decide_eq_true ⟨z2, z5, Int32.not_lt.mpr q⟩⟩
                            rw [if_neg z1, if_neg z2, if_neg z3, if_neg z4, if_neg z5, if_neg z6, if_neg z7]
          · refine bad 2 ?_ (fun M' y1 y2 y3 y4 => ?_)
            · unfold f_X10_copy
              simp only [nm_eq, q_X10_isSheet, hin, hin3, br_s, b2i0, Bool.true_eq_false, if_false, if_pos bk, if_pos bo, cl, co, r0 _ _ (show 0 < 2 + 2 * k by omega), r0 _ _ (show 0 < 2 + 2 * o by omega), if_neg gne, if_neg fne, if_neg hla, fl10, bi_s]
            · have hla2 : ¬ M 84 k = M 84 o := by rw [g2, f2]; exact hla
              unfold f_X11_copy
              simp only [nm_eq, q_X11_isSheet, hin, hin3, br_s, b2i0, Bool.true_eq_false, if_false, if_pos bk, if_pos bo, cl, co, y83 M' _ _ (show 83 < 84 by omega), y1, y2, show ¬ M 84 k = -9 from by rw [g2]; exact g9, show ¬ M 84 o = -9 from by rw [f2]; exact f9, if_neg hla2, fl11, bi_s]
