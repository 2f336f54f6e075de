-- heights behind a set of moves
def brS (mb mh a : Nat → Nat) (s : Nat) : Nat → Nat → Nat
  | 0 => a
  | i + 1 => fun j => if s.testBit i = true ∧ j = mb i then mh i else brS mb mh a s i j
theorem brS_s (mb mh a : Nat → Nat) (s i j : Nat) : brS mb mh a s (i + 1) j = if s.testBit i = true ∧ j = mb i then mh i else brS mb mh a s i j := rfl
def injM (m : Nat) (mb : Nat → Nat) : Prop := ∀ i j, i < j → j < m → mb i ≠ mb j
theorem brS_at {mb mh : Nat → Nat} {m : Nat} (hi : injM m mb) (a : Nat → Nat) (s : Nat) : ∀ i k, k < i → i ≤ m → brS mb mh a s i (mb k) = if s.testBit k = true then mh k else a (mb k)
  | 0, k, h, _ => by omega
  | i + 1, k, h, h2 => by
    rw [brS_s]
    by_cases e : k = i
    · subst e
      cases q : s.testBit k with
      | true => rw [if_pos ⟨rfl, rfl⟩, if_pos rfl]
      | false =>
        rw [if_neg (fun z => by cases z.1), if_neg (by decide)]
        have : ∀ i2, i2 ≤ k → brS mb mh a s i2 (mb k) = a (mb k) := by
          intro i2
          induction i2 with
          | zero => intro _; rfl
          | succ i2 ih =>
            intro h3
            rw [brS_s, if_neg (fun z => hi i2 k (by omega) (by omega) z.2.symm)]
            exact ih (by omega)
        exact this k (Nat.le_refl k)
    · rw [if_neg (fun z => hi k i (by omega) (by omega) z.2)]
      exact brS_at hi a s i k (by omega) (by omega)
theorem brS_out {mb mh : Nat → Nat} (a : Nat → Nat) (s j : Nat) : ∀ i, (∀ k, k < i → mb k ≠ j) → brS mb mh a s i j = a j
  | 0, _ => rfl
  | i + 1, h => by
    rw [brS_s, if_neg (fun z => h i (by omega) z.2.symm)]
    exact brS_out a s j i (fun k hk => h k (by omega))
theorem brS_or {mb mh : Nat → Nat} {m : Nat} (hi : injM m mb) (a : Nat → Nat) (D I : Nat) : brS mb mh (brS mb mh a D m) I m = brS mb mh a (D ||| I) m := by
  funext j
  by_cases h : ∃ k, k < m ∧ mb k = j
  · obtain ⟨k, hk, rfl⟩ := h
    rw [brS_at hi _ I m k hk (Nat.le_refl m), brS_at hi _ D m k hk (Nat.le_refl m), brS_at hi _ (D ||| I) m k hk (Nat.le_refl m), Nat.testBit_or]
    cases I.testBit k <;> cases D.testBit k <;> rfl
  · have h2 : ∀ k, k < m → mb k ≠ j := fun k hk z => h ⟨k, hk, z⟩
    rw [brS_out _ I j m h2, brS_out _ D j m h2, brS_out _ (D ||| I) j m h2]
theorem brS_9 {mb mh a : Nat → Nat} {s : Nat} : ∀ i, (∀ j, j < 8 → a j ≤ 9) → (∀ j, j < i → mh j ≤ 9) → ∀ j, j < 8 → brS mb mh a s i j ≤ 9
  | 0, h, _, j, hj => h j hj
  | i + 1, h, h2, j, hj => by
    have := brS_9 (mb := mb) (s := s) i h (fun j hj => h2 j (by omega)) j hj
    have := h2 i (by omega)
    rw [brS_s]
    split <;> omega
def MV (M : MM) (m : Nat) (mb mh : Nat → Nat) : Prop := M 65 2 = nI m ∧ ∀ k, k < m → mb k < 8 ∧ mh k ≤ 9 ∧ M 66 k = nI (mb k) ∧ M 67 k = nI (mh k)
theorem MV.cong {M M' : MM} {m : Nat} {mb mh : Nat → Nat} (h : MV M m mb mh) (a : ∀ k j, 65 ≤ k → k ≤ 67 → M' k j = M k j) : MV M' m mb mh := ⟨by rw [a _ _ (by omega) (by omega)]; exact h.1, fun k hk => by rw [a _ _ (by omega) (by omega), a _ _ (by omega) (by omega)]; exact h.2 k hk⟩
theorem c_bringL {m : Nat} (hm : m ≤ 5) {mb mh a : Nat → Nat} {k2 s : Nat} (hk2 : k2 = 79 ∨ k2 = 80) (hs : s < 32) : ∀ (d i fuel : Nat) (M : MM), MV M m mb mh → (∀ j, j < 8 → M k2 j = nI (brS mb mh a s i j)) → i + d = m → d < fuel → ∃ M' : MM, g_X8_bring_2 k2 fuel M (nI s) (nI i) = some M' ∧ (∀ j, j < 8 → M' k2 j = nI (brS mb mh a s m j)) ∧ ∀ k j, k ≠ k2 → M' k j = M k j := by
  intro d
  induction d with
  | zero =>
    intro i fuel M h1 h2 h3 h4
    obtain ⟨f, rfl⟩ : ∃ f, fuel = f + 1 := ⟨fuel - 1, by omega⟩
    obtain rfl : i = m := by omega
    rw [g_X8_bring_2, h1.1, if_pos (nI_le (Nat.le_refl i) (by omega))]
    exact ⟨M, rfl, h2, fun _ _ _ => rfl⟩
  | succ d ih =>
    intro i fuel M h1 h2 h3 h4
    obtain ⟨f, rfl⟩ : ∃ f, fuel = f + 1 := ⟨fuel - 1, by omega⟩
    obtain ⟨a1, a2, a3, a4⟩ := h1.2 i (by omega)
    rw [g_X8_bring_2, h1.1, if_neg (nI_ge (by omega) (by omega)), sb_d s (by omega) i (by omega), show nI i + (1 : Int32) = nI (i + 1) from nI_1 i]
    cases q : s.testBit i with
    | true =>
      rw [if_pos (by decide), if_pos (ib_ok (by omega) (by omega)), if_pos (ib_ok (by omega) (by omega)), nI_clamp (by omega), a3, a4, if_pos (ib_ok a1 (by omega)), nI_clamp (by omega), nm_eq]
      obtain ⟨M', e1, e2, e3⟩ := ih (i + 1) f (up2 M k2 (mb i) (nI (mh i))) (h1.cong (fun k j g1 g2 => up2_of (by omega))) (fun j hj => by
        rw [brS_s]
        by_cases e : j = mb i
        · rw [if_pos ⟨q, e⟩, e, up2_at]
        · rw [if_neg (fun z => e z.2), up2_of (by omega)]; exact h2 j hj) (by omega) (by omega)
      exact ⟨M', e1, e2, fun k j r => by rw [e3 k j r, up2_of (by omega)]⟩
    | false =>
      rw [if_neg (by decide)]
      exact ih (i + 1) f M h1 (fun j hj => by rw [brS_s, if_neg (fun z => by rw [q] at z; cases z.1)]; exact h2 j hj) (by omega) (by omega)
theorem c_bring {m : Nat} (hm : m ≤ 5) {mb mh a : Nat → Nat} {k2 s : Nat} (hk2 : k2 = 79 ∨ k2 = 80) (hs : s < 32) {M : MM} (h1 : MV M m mb mh) (h2 : ∀ j, j < 8 → M k2 j = nI (a j)) : ∃ M' : MM, f_X8_bring M (nI s) k2 = some M' ∧ (∀ j, j < 8 → M' k2 j = nI (brS mb mh a s m j)) ∧ ∀ k j, k ≠ k2 → M' k j = M k j := c_bringL hm hk2 hs m 0 FU M h1 h2 (by omega) (by have := FU_eq; omega)
section SPC
variable {n : Nat} {kd ld bw ht dr : Nat → Nat} {hd tr m : Nat} {mb mh : Nat → Nat} {cb nx : Nat → Nat → Bool}
theorem c_nbL (R : Rng n kd ld bw ht dr hd tr) (hm : m ≤ 5) (hi : injM m mb) (hcb : ∀ D s, cb D s = true ↔ CAN n (pl kd ld bw) dr (brS mb mh ht D m) (brS mb mh ht (D ||| s) m) hd) (hnx : ∀ D s, nx D s = true ↔ (1 ≤ s ∧ s ≤ 2 ^ m - 1 ∧ s &&& D = 0 ∧ cb D s = true)) {D : Nat} (hD : D < 32) : ∀ (d s fuel : Nat) (v : Int32) (M : MM), CLo M n kd ld bw ht dr hd tr → MV M m mb mh → (∀ j, j < 8 → M 79 j = nI (brS mb mh ht D m j)) → s + d = 2 ^ m → d < fuel → (∀ t, t < 32 → bt v t = (decide (t < s) && nx D t)) → 1 ≤ s → ∃ (v' : Int32) (M' : MM), g_X8_nextBehind_33 fuel M (nI D) v (nI s) = some (v', M') ∧ (∀ t, t < 32 → bt v' t = nx D t) ∧ ∀ k j, k ≠ 80 → M' k j = M k j := by
  obtain ⟨p32, p1⟩ := p5_d m (by omega)
  intro d
  induction d with
  | zero =>
    intro s fuel v M h h1 h2 h3 h4 h5 h6
    obtain ⟨f, rfl⟩ : ∃ f, fuel = f + 1 := ⟨fuel - 1, by omega⟩
    obtain rfl : s = 2 ^ m := by omega
    rw [g_X8_nextBehind_33, h1.1, (p2_d m (by omega)).1, if_pos (nI_le (Nat.le_refl _) (by omega))]
    refine ⟨v, M, rfl, fun t ht => ?_, fun _ _ _ => rfl⟩
    rw [h5 t ht]
    by_cases e : t < 2 ^ m
    · rw [decide_eq_true e, Bool.true_and]
    · rw [decide_eq_false e, Bool.false_and]
      cases q : nx D t with
      | false => rfl
      | true => have := ((hnx D t).mp q).2.1; omega
  | succ d ih =>
    intro s fuel v M h h1 h2 h3 h4 h5 h6
    obtain ⟨f, rfl⟩ : ∃ f, fuel = f + 1 := ⟨fuel - 1, by omega⟩
    obtain ⟨o1, o2, o3⟩ := bd_d s (by omega) D hD
    rw [g_X8_nextBehind_33, h1.1, (p2_d m (by omega)).1, if_neg (nI_ge (by omega) (by omega)), show nI s + (1 : Int32) = nI (s + 1) from nI_1 s]
    have step : ∀ (v2 : Int32) (b : Bool), b = nx D s → (∀ t, t < 32 → bt v2 t = (bt v t || (b && decide (s = t)))) → ∀ t, t < 32 → bt v2 t = (decide (t < s + 1) && nx D t) := by
      intro v2 b hb hv t ht
      rw [hv t ht, h5 t ht]
      by_cases e : s = t
      · subst e
        rw [decide_eq_false (show ¬ s < s by omega), decide_eq_true (show s < s + 1 by omega), decide_eq_true rfl, hb]
        simp
      · rw [decide_eq_false e, Bool.and_false, Bool.or_false]
        by_cases e2 : t < s
        · rw [decide_eq_true e2, decide_eq_true (show t < s + 1 by omega)]
        · rw [decide_eq_false e2, decide_eq_false (show ¬ t < s + 1 by omega)]
    by_cases q : s &&& D = 0
    · rw [if_pos (o1.mpr q), if_pos cp8, nm_eq]
      generalize eM5 : upR M 80 _ = M5
      have u5 : ∀ k j, k ≠ 80 → M5 k j = M k j := fun k j r => by rw [← eM5, upR_ne r]
      obtain ⟨M7, b0, b1, b2⟩ := c_bring (M := M5) hm (k2 := 80) (s := s) (a := brS mb mh ht D m) (Or.inr rfl) (by omega) (h1.cong (fun k j _ _ => u5 k j (by omega))) (fun j hj => by rw [← eM5, upR_at, cpz _ _ hj]; exact h2 j hj)
      have U : ∀ k j, k ≠ 80 → M7 k j = M k j := fun k j r => by rw [b2 k j r, u5 k j r]
      have hC7 : CLo M7 n kd ld bw ht dr hd tr := h.cong (fun k j _ r => U k j (by unfold relLo at r; omega))
      have a9 : ∀ X, ∀ j, j < 8 → brS mb mh ht X m j ≤ 9 := fun X => brS_9 m (fun j hj => (R.2.1 j hj).2.2.2.1) (fun j hj => (h1.2 j hj).2.1)
      obtain ⟨r, r1, r2⟩ := c_canBe (M := M7) (k1 := 79) (k2 := 80) (a := brS mb mh ht D m) (b := brS mb mh ht (D ||| s) m) (H := hd) hC7 R (fun j hj => ⟨by rw [U _ _ (by omega)]; exact h2 j hj, a9 D j hj⟩) (fun j hj => ⟨by rw [b1 j hj, brS_or hi], a9 _ j hj⟩) (by have := R.2.2.1; omega)
      rw [b0, br_s, hC7.2.2.2.2.2.2.1, r2, br_s]
      have er : r = nx D s := by
        have e1 : (r = true) ↔ (nx D s = true) := by
          rw [r1, ← hcb, hnx]
          exact ⟨fun z => ⟨by omega, by omega, q, z⟩, fun z => z.2.2.2⟩
        cases r <;> cases hq : nx D s <;> simp_all
      have go : ∀ v2 : Int32, (∀ t, t < 32 → bt v2 t = (decide (t < s + 1) && nx D t)) → ∃ (v' : Int32) (M' : MM), g_X8_nextBehind_33 f M7 (nI D) v2 (nI (s + 1)) = some (v', M') ∧ (∀ t, t < 32 → bt v' t = nx D t) ∧ ∀ k j, k ≠ 80 → M' k j = M k j := fun v2 hv2 => by
        obtain ⟨v', M', e1, e2, e3⟩ := ih (s + 1) f v2 M7 hC7 (h1.cong (fun k j _ _ => U k j (by omega))) (fun j hj => by rw [U _ _ (by omega)]; exact h2 j hj) (by omega) (by omega) hv2 (by omega)
        exact ⟨v', M', e1, e2, fun k j r => by rw [e3 k j r, U k j r]⟩
      cases r with
      | false =>
        rw [if_pos (show b2i false = 0 from rfl), nm_eq]
        exact go _ (step _ false er (fun t ht => by rw [bt_or, bt_0]; simp))
      | true =>
        rw [if_neg (by decide), nm_eq]
        exact go _ (step _ true er (fun t ht => by rw [bt_or, bt_sl s (by omega) t ht]; simp))
    · rw [if_neg (fun z => q (o1.mp z))]
      have en : nx D s = false := by
        cases hq : nx D s with
        | false => rfl
        | true => exact absurd ((hnx D s).mp hq).2.2.1 q
      exact ih (s + 1) f v M h h1 h2 (by omega) (by omega) (step v false en.symm (fun t ht => by simp)) (by omega)
theorem c_nb {M : MM} (h : CLo M n kd ld bw ht dr hd tr) (R : Rng n kd ld bw ht dr hd tr) (hm : m ≤ 5) (hi : injM m mb) (hcb : ∀ D s, cb D s = true ↔ CAN n (pl kd ld bw) dr (brS mb mh ht D m) (brS mb mh ht (D ||| s) m) hd) (hnx : ∀ D s, nx D s = true ↔ (1 ≤ s ∧ s ≤ 2 ^ m - 1 ∧ s &&& D = 0 ∧ cb D s = true)) {D : Nat} (hD : D < 32) (h1 : MV M m mb mh) : ∃ (v' : Int32) (M' : MM), f_X8_nextBehind M (nI D) = some (v', M') ∧ (∀ t, t < 32 → bt v' t = nx D t) ∧ ∀ k j, k ≠ 79 → k ≠ 80 → M' k j = M k j := by
  obtain ⟨p32, p1⟩ := p5_d m (by omega)
  unfold f_X8_nextBehind
  rw [if_pos cp8, nm_eq]
  generalize eM1 : upR M 79 _ = M1
  have u1 : ∀ k j, k ≠ 79 → M1 k j = M k j := fun k j r => by rw [← eM1, upR_ne r]
  obtain ⟨M3, b0, b1, b2⟩ := c_bring (M := M1) hm (k2 := 79) (s := D) (a := ht) (Or.inl rfl) hD (h1.cong (fun k j _ _ => u1 k j (by omega))) (fun j hj => by rw [← eM1, upR_at, cpz _ _ hj]; exact h.2.2.2.2.2.1 j hj)
  rw [b0, br_s]
  have U : ∀ k j, k ≠ 79 → M3 k j = M k j := fun k j r => by rw [b2 k j r, u1 k j r]
  obtain ⟨v', M', e1, e2, e3⟩ := c_nbL R hm hi hcb hnx hD (2 ^ m - 1) 1 FU 0 M3 (h.cong (fun k j _ r => U k j (by unfold relLo at r; omega))) (h1.cong (fun k j _ _ => U k j (by omega))) b1 (by omega) (by have := FU_eq; omega) (fun t ht => by
    rw [bt_0]
    by_cases e : t < 1
    · obtain rfl : t = 0 := by omega
      cases hq : nx D 0 with
      | false => rfl
      | true => have := ((hnx D 0).mp hq).1; omega
    · rw [decide_eq_false e, Bool.false_and]) (by omega)
  exact ⟨v', M', e1, e2, fun k j r1 r2 => by rw [e3 k j r2, U k j r1]⟩
end SPC
