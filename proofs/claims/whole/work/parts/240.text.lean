-- the text of a loft: which code may stand where
def okP (p : Nat) (c : Int32) : Bool := if p < 52 then (if p = 0 then decide (c = 102) else if p = 1 then inR c 49 54 else if p = 2 then inR c 49 57 else if p = 3 then inR c 48 57 else if (p - 4) % 6 = 0 then decide (c = 59) else if (p - 4) % 6 = 1 then (decide (c = 108) || decide (c = 97) || decide (c = 119)) else if (p - 4) % 6 = 5 then inR c 48 51 else inR c 48 57) else false
theorem pl_d : ∀ p, p < 60 → (nI p < (52 : Int32) ↔ p < 52) ∧ (nI p = 0 ↔ p = 0) ∧ (nI p = (1 : Int32) ↔ p = 1) ∧ (nI p = (2 : Int32) ↔ p = 2) ∧ (nI p = (3 : Int32) ↔ p = 3) ∧ (nI p = (5 : Int32) ↔ p = 5) ∧ (4 ≤ p → rm32 (nI p - (4 : Int32)) (6 : Int32) = nI ((p - 4) % 6)) := by decide +kernel
theorem c_obg (M : MM) {q : Nat} (hq : q < 6) (c : Int32) : f_X9_ofBattenGoesOn M (nI q) c = some (b2i (if q = 0 then decide (c = 59) else if q = 1 then (decide (c = 108) || decide (c = 97) || decide (c = 119)) else if q = 5 then inR c 48 51 else inR c 48 57)) := by
  obtain ⟨-, d0, d1, -, -, d5, -⟩ := pl_d q (by omega)
  unfold f_X9_ofBattenGoesOn
  rw [w10_48_51, w10_48_57, br_s, br_s, if_pos (nb_b _), if_pos (nb_b _)]
  by_cases q0 : q = 0
  · rw [if_pos (d0.mpr q0), if_pos q0]
    by_cases z : c = 59
    · rw [if_pos z, decide_eq_true z]; rfl
    · rw [if_neg z, decide_eq_false z]; rfl
  · rw [if_neg (fun z => q0 (d0.mp z)), if_neg q0]
    by_cases q1 : q = 1
    · rw [if_pos (show nI q = 1 from d1.mpr q1), if_pos q1]
      by_cases z1 : c = 108
      · rw [if_pos z1, decide_eq_true z1]; rfl
      · rw [if_neg z1, decide_eq_false z1]
        by_cases z2 : c = 97
        · rw [if_pos z2, decide_eq_true z2]; rfl
        · rw [if_neg z2, decide_eq_false z2]
          by_cases z3 : c = 119
          · rw [if_pos z3, decide_eq_true z3]; rfl
          · rw [if_neg z3, decide_eq_false z3]; rfl
    · rw [if_neg (fun z => q1 (d1.mp z)), if_neg q1]
      by_cases q5 : q = 5
      · rw [if_pos (show nI q = 5 from d5.mpr q5), if_pos q5]
      · rw [if_neg (fun z => q5 (d5.mp z)), if_neg q5]
theorem c_goes (M : MM) {p : Nat} (hp : p < 60) (c : Int32) : f_X9_goesOn M (nI p) c = some (b2i (okP p c)) := by
  obtain ⟨d52, d0, d1, d2, d3, d5, dm⟩ := pl_d p hp
  unfold f_X9_goesOn okP
  rw [w10_49_54, w10_49_57, w10_48_57]
  simp only [br_s, nb_b, if_true]
  by_cases g : p < 52
  · rw [if_pos (d52.mpr g), if_pos g]
    by_cases q0 : p = 0
    · rw [if_pos (d0.mpr q0), if_pos q0]
      by_cases z : c = 102
      · rw [if_pos z, decide_eq_true z]; rfl
      · rw [if_neg z, decide_eq_false z]; rfl
    · rw [if_neg (fun z => q0 (d0.mp z)), if_neg q0]
      by_cases q1 : p = 1
      · rw [if_pos (show nI p = 1 from d1.mpr q1), if_pos q1]
      · rw [if_neg (fun z => q1 (d1.mp z)), if_neg q1]
        by_cases q2 : p = 2
        · rw [if_pos (show nI p = 2 from d2.mpr q2), if_pos q2]
        · rw [if_neg (fun z => q2 (d2.mp z)), if_neg q2]
          by_cases q3 : p = 3
          · rw [if_pos (show nI p = 3 from d3.mpr q3), if_pos q3]
          · rw [if_neg (fun z => q3 (d3.mp z)), if_neg q3, dm (by omega), c_obg M (Nat.mod_lt _ (by omega)), br_s, if_pos (nb_b _)]
  · rw [if_neg (fun z => g (d52.mp z)), if_neg g]
    rfl
/-- fp: the first place that doesn't go on -/
def FP (N : Nat) (C : Nat → Int32) (fp : Nat) : Prop := fp ≤ N ∧ (∀ p, p < fp → okP p (C p) = true) ∧ (fp < N → okP fp (C fp) = false)
theorem FP_ex (C : Nat → Int32) : ∀ N, ∃ fp, FP N C fp
  | 0 => ⟨0, Nat.le_refl _, fun p h => by omega, fun h => by omega⟩
  | N + 1 => by
    obtain ⟨fp, h1, h2, h3⟩ := FP_ex C N
    by_cases e : fp < N
    · exact ⟨fp, by omega, h2, fun _ => h3 e⟩
    · obtain rfl : fp = N := by omega
      cases q : okP fp (C fp) with
      | true =>
        refine ⟨fp + 1, Nat.le_refl _, fun p hp => ?_, fun h => by omega⟩
        by_cases e2 : p = fp
        · subst e2; exact q
        · exact h2 p (by omega)
      | false => exact ⟨fp, by omega, h2, fun _ => q⟩
abbrev WH (N fp : Nat) : Prop := fp = N ∧ 16 ≤ N ∧ (N - 4) % 6 = 0
theorem ff_d : ∀ N, N < 61 → (nI N < (16 : Int32) ↔ N < 16) ∧ (16 ≤ N → (rm32 (nI N - (4 : Int32)) (6 : Int32) = 0 ↔ (N - 4) % 6 = 0) ∧ (nI N - (4 : Int32)) / (6 : Int32) = nI ((N - 4) / 6)) := by decide +kernel
theorem c_ffL {M : MM} {k0 i0 N fp : Nat} (hN : i0 + N ≤ 60) {C : Nat → Int32} (hC : ∀ p, p < N → M k0 (i0 + p) = C p) (hF : FP N C fp) : ∀ (d p fuel : Nat), p + d = fp → d < fuel → g_X9_firstFault_2 M k0 fuel (nI i0) (nI N) (nI p) = some (if WH N fp then -9 else nI fp) := by
  obtain ⟨f1, f2, f3⟩ := hF
  intro d
  induction d with
  | zero =>
    intro p fuel h1 h2
    obtain ⟨f, rfl⟩ : ∃ f, fuel = f + 1 := ⟨fuel - 1, by omega⟩
    obtain rfl : p = fp := by omega
    rw [g_X9_firstFault_2]
    by_cases e : p = N
    · subst e
      obtain ⟨t1, t2⟩ := ff_d p (by omega)
      rw [if_pos (nI_le (Nat.le_refl p) (by omega))]
      by_cases q : p < 16
      · rw [if_pos (t1.mpr q), if_neg (show ¬ WH p p by omega)]
        rfl
      · rw [if_neg (fun z => q (t1.mp z))]
        by_cases q2 : (p - 4) % 6 = 0
        · rw [if_pos ((t2 (by omega)).1.mpr q2), if_pos (show WH p p from ⟨rfl, by omega, q2⟩)]
          rfl
        · rw [if_neg (fun z => q2 ((t2 (by omega)).1.mp z)), if_neg (show ¬ WH p p from fun z => q2 z.2.2)]
          rfl
    · rw [if_neg (nI_ge (by omega) (by omega)), nI_add, if_pos (ib_ok (by omega) (by omega)), nI_clamp (by omega), hC p (by omega), c_goes M (by omega), br_s, f3 (by omega), if_pos (show b2i false = 0 from rfl), if_neg (show ¬ WH N p from fun z => e z.1)]
  | succ d ih =>
    intro p fuel h1 h2
    obtain ⟨f, rfl⟩ : ∃ f, fuel = f + 1 := ⟨fuel - 1, by omega⟩
    rw [g_X9_firstFault_2, if_neg (nI_ge (by omega) (by omega)), nI_add, if_pos (ib_ok (by omega) (by omega)), nI_clamp (by omega), hC p (by omega), c_goes M (by omega), br_s, f2 p (by omega), if_neg (by decide), show nI p + (1 : Int32) = nI (p + 1) from nI_1 p]
    exact ih (p + 1) f (by omega) (by omega)
/-- a code as a digit, as a kind -/
def dgN (c : Int32) : Nat := c.toNatClampNeg - 48
def knN (c : Int32) : Nat := if c = 108 then 0 else if c = 97 then 1 else 2
theorem dg_ok {c : Int32} {a b : Nat} (ha : 48 ≤ a) (hab : a ≤ b) (hb : b ≤ 57) (h : inR c a b = true) : c - (48 : Int32) = nI (dgN c) ∧ a - 48 ≤ dgN c ∧ dgN c ≤ b - 48 := by
  obtain ⟨j, h1, h2, rfl⟩ := inR_y (by omega) hab h
  unfold dgN
  rw [nI_clamp (by omega)]
  exact ⟨pk_sub (b := 48) (by omega), by omega, by omega⟩
theorem okP_1 {c : Int32} (h : okP 1 c = true) : inR c 49 54 = true := h
theorem okP_2 {c : Int32} (h : okP 2 c = true) : inR c 49 57 = true := h
theorem okP_3 {c : Int32} (h : okP 3 c = true) : inR c 48 57 = true := h
theorem okP_b {b q : Nat} (hb : b < 8) (hq : q < 6) (c : Int32) : okP (4 + 6 * b + q) c = if q = 0 then decide (c = 59) else if q = 1 then (decide (c = 108) || decide (c = 97) || decide (c = 119)) else if q = 5 then inR c 48 51 else inR c 48 57 := by
  unfold okP
  rw [if_pos (by omega), if_neg (by omega), if_neg (by omega), if_neg (by omega), if_neg (by omega), show (4 + 6 * b + q - 4) % 6 = q by omega]
theorem c_kind (M : MM) (c : Int32) : f_X9_kindOf M c = some (nI (knN c)) := by
  unfold f_X9_kindOf knN
  split
  · rfl
  · split <;> rfl
theorem c_buildL {k1 i0 N : Nat} (hk1 : 3 ≤ k1 ∧ k1 ≤ 9) (hN : i0 + N ≤ 60) {n : Nat} (hn : n ≤ 8) (hnN : 4 + 6 * n ≤ N) {C : Nat → Int32} : ∀ (d b fuel : Nat) (M : MM), (∀ p, p < N → M k1 (i0 + p) = C p) → M 20 3 = nI n → b + d = n → d < fuel → ∃ M' : MM, g_X1_build_58 k1 fuel M (nI i0) (nI b) = some M' ∧ (∀ x, b ≤ x → x < n → M' 21 x = nI (knN (C (5 + 6 * x))) ∧ M' 24 x = C (6 + 6 * x) - 48 ∧ M' 25 x = C (7 + 6 * x) - 48 ∧ M' 26 x = C (8 + 6 * x) - 48 ∧ M' 22 x = C (9 + 6 * x) - 48) ∧ ∀ k j, ¬ ((k = 21 ∨ k = 22 ∨ k = 24 ∨ k = 25 ∨ k = 26) ∧ b ≤ j ∧ j < n) → M' k j = M k j := by
  intro d
  induction d with
  | zero =>
    intro b fuel M hC h1 h2 h3
    obtain ⟨f, rfl⟩ : ∃ f, fuel = f + 1 := ⟨fuel - 1, by omega⟩
    obtain rfl : b = n := by omega
    rw [g_X1_build_58, h1, if_pos (nI_le (Nat.le_refl b) (by omega))]
    exact ⟨M, rfl, fun x g1 g2 => by omega, fun k j _ => rfl⟩
  | succ d ih =>
    intro b fuel M hC h1 h2 h3
    obtain ⟨f, rfl⟩ : ∃ f, fuel = f + 1 := ⟨fuel - 1, by omega⟩
    have bo := ib_ok (show b < 8 by omega) (show 8 ≤ 2 ^ 31 by omega)
    have cl := nI_clamp (show b < 2 ^ 31 by omega)
    have e5 : (nI i0 + (4 : Int32)) + (nI b * (6 : Int32)) = nI (i0 + (4 + 6 * b)) := by
      rw [show nI b * (6 : Int32) = nI (b * 6) from pk_mul b 6, show nI i0 + (4 : Int32) = nI (i0 + 4) from nI_add i0 4, nI_add]
      congr 1
      omega
    have ek : ∀ q : Nat, nI (i0 + (4 + 6 * b)) + nI q = nI (i0 + (4 + q + 6 * b)) := fun q => by
      rw [nI_add]
      congr 1
      omega
    have ik : ∀ q : Nat, q ≤ 5 → ib (nI (i0 + (4 + q + 6 * b))) 60 = true ∧ (nI (i0 + (4 + q + 6 * b))).toNatClampNeg = i0 + (4 + q + 6 * b) := fun q hq => ⟨ib_ok (by omega) (by omega), nI_clamp (by omega)⟩
    rw [g_X1_build_58, h1, if_neg (nI_ge (by omega) (by omega)), e5]
    simp only [nm_eq]
    rw [show nI (i0 + (4 + 6 * b)) + (1 : Int32) = nI (i0 + (5 + 6 * b)) from ek 1, show nI (i0 + (4 + 6 * b)) + (2 : Int32) = nI (i0 + (6 + 6 * b)) from ek 2, show nI (i0 + (4 + 6 * b)) + (3 : Int32) = nI (i0 + (7 + 6 * b)) from ek 3, show nI (i0 + (4 + 6 * b)) + (4 : Int32) = nI (i0 + (8 + 6 * b)) from ek 4, show nI (i0 + (4 + 6 * b)) + (5 : Int32) = nI (i0 + (9 + 6 * b)) from ek 5]
    rw [if_pos (ik 1 (by omega)).1, (ik 1 (by omega)).2, show i0 + (4 + 1 + 6 * b) = i0 + (5 + 6 * b) from rfl, hC (5 + 6 * b) (by omega), c_kind, br_s, if_pos bo, if_pos (ik 2 (by omega)).1, if_pos bo, if_pos (ik 3 (by omega)).1, if_pos bo, if_pos (ik 4 (by omega)).1, if_pos bo, if_pos (ik 5 (by omega)).1, if_pos bo, cl, (ik 2 (by omega)).2, (ik 3 (by omega)).2, (ik 4 (by omega)).2, (ik 5 (by omega)).2]
    rw [up2_of (by omega), hC _ (by omega), up2_of (by omega), up2_of (by omega), hC _ (by omega), up2_of (by omega), up2_of (by omega), up2_of (by omega), hC _ (by omega), up2_of (by omega), up2_of (by omega), up2_of (by omega), up2_of (by omega), hC _ (by omega), show nI b + (1 : Int32) = nI (b + 1) from nI_1 b]
    generalize eM : up2 (up2 (up2 (up2 (up2 M 21 b (nI (knN (C (5 + 6 * b))))) 24 b (C (4 + 2 + 6 * b) - 48)) 25 b (C (4 + 3 + 6 * b) - 48)) 26 b (C (4 + 4 + 6 * b) - 48)) 22 b (C (4 + 5 + 6 * b) - 48) = Ma
    have U : ∀ k j, ¬ ((k = 21 ∨ k = 22 ∨ k = 24 ∨ k = 25 ∨ k = 26) ∧ j = b) → Ma k j = M k j := fun k j r => by rw [← eM, up2_of (by omega), up2_of (by omega), up2_of (by omega), up2_of (by omega), up2_of (by omega)]
    obtain ⟨M', e1, e2, e3⟩ := ih (b + 1) f Ma (fun p hp => by rw [U _ _ (by omega)]; exact hC p hp) (by rw [U _ _ (by omega)]; exact h1) (by omega) (by omega)
    refine ⟨M', e1, fun x g1 g2 => ?_, fun k j r => by rw [e3 k j (by omega), U k j (by omega)]⟩
    by_cases e : x = b
    · subst e
      rw [e3 21 x (by omega), e3 22 x (by omega), e3 24 x (by omega), e3 25 x (by omega), e3 26 x (by omega), ← eM]
      refine ⟨by rw [up2_of (by omega), up2_of (by omega), up2_of (by omega), up2_of (by omega), up2_at], by rw [up2_of (by omega), up2_of (by omega), up2_of (by omega), up2_at], by rw [up2_of (by omega), up2_of (by omega), up2_at], by rw [up2_of (by omega), up2_at], by rw [up2_at]⟩
    · exact e2 x (by omega) g2
