theorem pw_d : ∀ c, c < 6 → ∀ m, m < 6 → c ^ m ≤ 3125 := by decide +kernel
section SPF
variable {n : Nat} {kd ld bw ht dr : Nat → Nat} {hd tr m : Nat} {mb mh : Nat → Nat} {cb nx : Nat → Nat → Bool}
theorem c_powL {M : MM} {c : Nat} (hc : c ≤ 5) (hm : m ≤ 5) (h76 : M 76 6 = nI c) : ∀ (d i fuel : Nat), i + d = m → d < fuel → g_X8_chooseRow_4 fuel M (nI m) (nI (c ^ i)) (nI i) = g_X8_chooseRow_24 FU M (nI m) (nI (c ^ m)) (0 : Int32) := by
  intro d
  induction d with
  | zero =>
    intro i fuel h1 h2
    obtain ⟨f, rfl⟩ : ∃ f, fuel = f + 1 := ⟨fuel - 1, by omega⟩
    obtain rfl : i = m := by omega
    rw [g_X8_chooseRow_4, if_pos (nI_le (Nat.le_refl i) (by omega))]
  | succ d ih =>
    intro i fuel h1 h2
    obtain ⟨f, rfl⟩ : ∃ f, fuel = f + 1 := ⟨fuel - 1, by omega⟩
    rw [g_X8_chooseRow_4, if_neg (nI_ge (by omega) (by omega)), h76, pk_mul, ← Nat.pow_succ, nm_eq, show nI i + (1 : Int32) = nI (i + 1) from nI_1 i]
    exact ih (i + 1) f (by omega) (by omega)
theorem c_rowsL (hm : m ≤ 5) (hnx : ∀ D s, nx D s = true ↔ (1 ≤ s ∧ s ≤ 2 ^ m - 1 ∧ s &&& D = 0 ∧ cb D s = true)) {c r0 : Nat} (hc : c ≤ 5) (hmin : ∀ c', c' < c → ¬ RR (nxP nx) (2 ^ m - 1) c' 0) (hr0 : r0 < c ^ m) (hok : chQ nx (ofI (rdD (max c 1) m r0) m) c 0 0 = true) (hno : ∀ x, x < r0 → chQ nx (ofI (rdD (max c 1) m x) m) c 0 0 = false) : ∀ (d r fuel : Nat) (M : MM), M 76 6 = nI c → (∀ E, E < 2 ^ m - 1 → ∀ t, t < 32 → bt (M 77 E) t = nx E t) → r + d = r0 → d < fuel → ∃ M' : MM, g_X8_chooseRow_24 fuel M (nI m) (nI (c ^ m)) (nI r) = some (1, M') ∧ (∀ k, k < m → M' 81 k = nI (rdD (max c 1) m r0 k)) ∧ ∀ k j, k ≠ 81 → k ≠ 82 → M' k j = M k j := by
  have pw := pw_d c (by omega) m (by omega)
  intro d
  induction d with
  | zero =>
    intro r fuel M h1 h2 h3 h4
    obtain ⟨f, rfl⟩ : ∃ f, fuel = f + 1 := ⟨fuel - 1, by omega⟩
    obtain rfl : r = r0 := by omega
    obtain ⟨M1, a1, a2, a3, a4⟩ := c_readR (M := M) (row := r) hc hm (by omega) h1
    have e := c_rowC (M := M1) hm hnx hc (by rw [a4 _ _ (by omega) (by omega)]; exact h1) (fun E hE t ht => by rw [a4 _ _ (by omega) (by omega)]; exact h2 E hE t ht) (I := ofI (rdD (max c 1) m r) m) (fun i hi => ⟨a3 i hi, ofI_le _ _ _⟩) hmin c 0 FU 0 (by omega) (by have := FU_eq; omega) (by omega) rfl
    have e' : f_X8_rowCanBe M1 = _ := e
    rw [g_X8_chooseRow_24, if_neg (nI_ge hr0 (by omega)), a1, br_s, e', br_s, hok, if_neg (by decide)]
    exact ⟨M1, rfl, a2, a4⟩
  | succ d ih =>
    intro r fuel M h1 h2 h3 h4
    obtain ⟨f, rfl⟩ : ∃ f, fuel = f + 1 := ⟨fuel - 1, by omega⟩
    obtain ⟨M1, a1, a2, a3, a4⟩ := c_readR (M := M) (row := r) hc hm (by omega) h1
    have e := c_rowC (M := M1) hm hnx hc (by rw [a4 _ _ (by omega) (by omega)]; exact h1) (fun E hE t ht => by rw [a4 _ _ (by omega) (by omega)]; exact h2 E hE t ht) (I := ofI (rdD (max c 1) m r) m) (fun i hi => ⟨a3 i hi, ofI_le _ _ _⟩) hmin c 0 FU 0 (by omega) (by have := FU_eq; omega) (by omega) rfl
    have e' : f_X8_rowCanBe M1 = _ := e
    rw [g_X8_chooseRow_24, if_neg (nI_ge (by omega) (by omega)), a1, br_s, e', br_s, hno r (by omega), if_pos (show b2i false = 0 from rfl), show nI r + (1 : Int32) = nI (r + 1) from nI_1 r]
    obtain ⟨M', e1, e2, e3⟩ := ih (r + 1) f M1 (by rw [a4 _ _ (by omega) (by omega)]; exact h1) (fun E hE t ht => by rw [a4 _ _ (by omega) (by omega)]; exact h2 E hE t ht) (by omega) (by omega)
    exact ⟨M', e1, e2, fun k j r1 r2 => by rw [e3 k j r1 r2, a4 k j r1 r2]⟩
/-- none can be -/
theorem c_findN {M : MM} (h : CLo M n kd ld bw ht dr hd tr) (h1 : MV M m mb mh) (R : Rng n kd ld bw ht dr hd tr) (hm : m ≤ 5) (hi : injM m mb) (hcb : ∀ D s, cb D s = true ↔ CAN n (pl kd ld bw) dr (brS mb mh ht D m) (brS mb mh ht (D ||| s) m) hd) (hnx : ∀ D s, nx D s = true ↔ (1 ≤ s ∧ s ≤ 2 ^ m - 1 ∧ s &&& D = 0 ∧ cb D s = true)) (hno : ∀ c, ¬ RR (nxP nx) (2 ^ m - 1) c 0) : ∃ M' : MM, f_X8_find M = some (0, M') ∧ ∀ k j, ¬ (76 ≤ k ∧ k ≤ 82) → M' k j = M k j := by
  obtain ⟨M1, a1, a2, a3⟩ := c_find1 h h1 R hm hi hcb hnx
  rcases a2.1 0 (Nat.le_refl _) (by omega) with ⟨f1, f2⟩ | ⟨c, f0, f1, f2, f3⟩
  · rw [a1]
    unfold KF
    rw [nm_eq, up2_at, if_pos f1]
    exact ⟨_, rfl, fun k j r => by rw [up2_of (by omega), a3 k j (by omega)]⟩
  · exact absurd f2 (hno c)
theorem c_findS {M : MM} (h : CLo M n kd ld bw ht dr hd tr) (h1 : MV M m mb mh) (R : Rng n kd ld bw ht dr hd tr) (hm : m ≤ 5) (hi : injM m mb) (hcb : ∀ D s, cb D s = true ↔ CAN n (pl kd ld bw) dr (brS mb mh ht D m) (brS mb mh ht (D ||| s) m) hd) (hnx : ∀ D s, nx D s = true ↔ (1 ≤ s ∧ s ≤ 2 ^ m - 1 ∧ s &&& D = 0 ∧ cb D s = true)) {c r0 : Nat} (hR : RR (nxP nx) (2 ^ m - 1) c 0) (hmin : ∀ c', c' < c → ¬ RR (nxP nx) (2 ^ m - 1) c' 0) (hr0 : r0 < c ^ m) (hok : chQ nx (ofI (rdD (max c 1) m r0) m) c 0 0 = true) (hno : ∀ x, x < r0 → chQ nx (ofI (rdD (max c 1) m x) m) c 0 0 = false) : ∃ M' : MM, f_X8_find M = some (1, M') ∧ M' 76 6 = nI c ∧ (∀ k, k < m → M' 81 k = nI (rdD (max c 1) m r0 k)) ∧ ∀ k j, ¬ (76 ≤ k ∧ k ≤ 82) → M' k j = M k j := by
  obtain ⟨p32, p1⟩ := p5_d m (by omega)
  obtain ⟨M1, a1, a2, a3⟩ := c_find1 h h1 R hm hi hcb hnx
  rcases a2.1 0 (Nat.le_refl _) (by omega) with ⟨f1, f2⟩ | ⟨c2, f0, f1, f2, f3⟩
  · exact absurd hR (f2 c)
  · have ec : c2 = c := by
      rcases Nat.lt_trichotomy c2 c with z | z | z
      · exact absurd f2 (hmin c2 z)
      · exact z
      · exact absurd hR (f3 c z)
    subst ec
    have pw := pw_d c2 (by omega) m (by omega)
    rw [a1]
    unfold KF
    rw [nm_eq, up2_at, f1, if_neg (n9_d c2 (by omega)), up2_of (by omega), a3 65 2 (by omega), h1.1]
    have e1 := c_powL (M := up2 M1 76 6 (nI c2)) f0 hm (up2_at _ _ _ _) m 0 FU (by omega) (by have := FU_eq; omega)
    have e1' : f_X8_chooseRow (up2 M1 76 6 (nI c2)) (nI m) = _ := e1
    obtain ⟨M', e2, e3, e4⟩ := c_rowsL hm hnx f0 hmin hr0 hok hno r0 0 FU (up2 M1 76 6 (nI c2)) (up2_at _ _ _ _) (fun E hE t ht => by rw [up2_of (by omega)]; exact a2.2 E (by omega) hE t ht) (by omega) (by have := FU_eq; omega)
    have e2' : g_X8_chooseRow_24 FU (up2 M1 76 6 (nI c2)) (nI m) (nI (c2 ^ m)) 0 = _ := e2
    rw [e1', e2', bi_s, if_neg (by decide)]
    exact ⟨M', rfl, by rw [e4 _ _ (by omega) (by omega), up2_at], e3, fun k j r => by rw [e4 k j (by omega) (by omega), up2_of (by omega), a3 k j (by omega)]⟩
-- the reference tries a row
theorem m_csI {o c i : Nat} (hm : m ≤ 5) (ho : o + 2 * m ≤ 240) (n8 : n ≤ 8) {f h : Nat → Nat} (hf : ∀ k, k < m → f k < 10) (hi : i < 10) (rec : MM → Int32 → Int32 → Int32 → Int32 → Int32 → Option (Int32 × MM)) (mv : ∀ k, k < m → mb k < n) : ∀ (d k fuel : Nat) (M : MM), (∀ k, k < m → M 101 k = nI (f k) ∧ M 86 (o + 2 * k) = nI (mb k) ∧ M 86 (o + 2 * k + 1) = nI (mh k)) → (∀ j, j < n → M 93 j = nI (brS mb mh h (ofI f m i) k j)) → k + d = m → d < fuel → ∃ Ma : MM, g_X11_canSplit_28 rec fuel M (nI o) (nI m) (nI c) (nI i) (nI k) = (br (f_X11_canBe Ma) fun r13 => (if r13 = 0 then rec Ma (nI o) (nI m) (nI c) r13 (nI (i + 1)) else (br (f_X11_goes Ma) fun M16 => rec M16 (nI o) (nI m) (nI c) r13 (nI (i + 1))))) ∧ (∀ j, j < n → Ma 93 j = nI (brS mb mh h (ofI f m i) m j)) ∧ ∀ x j, x ≠ 93 → Ma x j = M x j := by
  intro d
  induction d with
  | zero =>
    intro k fuel M h1 h2 h3 h4
    obtain ⟨f', rfl⟩ : ∃ f, fuel = f + 1 := ⟨fuel - 1, by omega⟩
    obtain rfl : k = m := by omega
    rw [g_X11_canSplit_28, if_pos (nI_le (Nat.le_refl k) (by omega)), show nI i + (1 : Int32) = nI (i + 1) from nI_1 i]
    exact ⟨M, rfl, h2, fun _ _ _ => rfl⟩
  | succ d ih =>
    intro k fuel M h1 h2 h3 h4
    obtain ⟨f', rfl⟩ : ∃ f, fuel = f + 1 := ⟨fuel - 1, by omega⟩
    obtain ⟨a1, a2, a3⟩ := h1 k (by omega)
    have b1 := mv k (by omega)
    have fk := hf k (by omega)
    have eb : (ofI f m i).testBit k = decide (f k = i) := by
      unfold ofI
      rw [stP_bit, decide_eq_true (show k < m by omega), Bool.true_and]
    rw [g_X11_canSplit_28, if_neg (nI_ge (by omega) (by omega)), if_pos (ib_ok (show k < 5 by omega) (by omega)), nI_clamp (by omega), a1, show nI k + (1 : Int32) = nI (k + 1) from nI_1 k]
    by_cases q : f k = i
    · rw [if_pos (by rw [q]), ix2, show nI (o + 2 * k) + (1 : Int32) = nI (o + 2 * k + 1) from nI_1 _, if_pos (ib_ok (by omega) (by omega)), if_pos (ib_ok (by omega) (by omega)), nI_clamp (by omega), nI_clamp (by omega), a2, a3, if_pos (ib_ok (by omega) (by omega)), nI_clamp (by omega), nm_eq]
      obtain ⟨Ma, e1, e2, e3⟩ := ih (k + 1) f' (up2 M 93 (mb k) (nI (mh k))) (fun x hx => by rw [up2_of (by omega), up2_of (by omega), up2_of (by omega)]; exact h1 x hx) (fun j hj => by
        rw [brS_s, eb, decide_eq_true q]
        by_cases e : j = mb k
        · rw [if_pos ⟨rfl, e⟩, e, up2_at]
        · rw [if_neg (fun z => e z.2), up2_of (by omega)]; exact h2 j hj) (by omega) (by omega)
      exact ⟨Ma, e1, e2, fun x j r => by rw [e3 x j r, up2_of (by omega)]⟩
    · rw [if_neg (fun z => q (nI_inj (by omega) (by omega) z))]
      exact ih (k + 1) f' M h1 (fun j hj => by rw [brS_s, eb, decide_eq_false q, if_neg (fun z => by cases z.1)]; exact h2 j hj) (by omega) (by omega)
theorem MLo.hts {M M' : MM} {h h' : Nat → Nat} (hA : MLo M n kd ld bw h dr hd tr) (a : ∀ k j, 83 ≤ k → k ≠ 90 → relLo k j → M' k j = M k j) (e : ∀ j, j < 8 → M' 90 j = nI (h' j)) : MLo M' n kd ld bw h' dr hd tr := by
  unfold relLo at a
  exact ⟨by rw [a _ _ (by omega) (by omega) (by omega)]; exact hA.1, fun j hj => by rw [a _ _ (by omega) (by omega) (by omega)]; exact hA.2.1 j hj, fun j hj => by rw [a _ _ (by omega) (by omega) (by omega)]; exact hA.2.2.1 j hj, fun j hj => by rw [a _ _ (by omega) (by omega) (by omega)]; exact hA.2.2.2.1 j hj, fun j hj => by rw [a _ _ (by omega) (by omega) (by omega)]; exact hA.2.2.2.2.1 j hj, e, by rw [a _ _ (by omega) (by omega) (by omega)]; exact hA.2.2.2.2.2.2.1, by rw [a _ _ (by omega) (by omega) (by omega)]; exact hA.2.2.2.2.2.2.2⟩
theorem m_csL (R : Rng n kd ld bw ht dr hd tr) (hn : 1 ≤ n) {o c : Nat} (hm : m ≤ 5) (hc : c ≤ 5) (ho : o + 2 * m ≤ 240) (hi : injM m mb) (hcb : ∀ D s, cb D s = true ↔ CAN n (pl kd ld bw) dr (brS mb mh ht D m) (brS mb mh ht (D ||| s) m) hd) {f : Nat → Nat} (hf : ∀ k, k < m → f k < 10) (mv : ∀ k, k < m → mb k < n ∧ mh k ≤ 9) : ∀ (d i fuel : Nat) (M : MM), (∀ k, k < m → M 101 k = nI (f k) ∧ M 86 (o + 2 * k) = nI (mb k) ∧ M 86 (o + 2 * k + 1) = nI (mh k)) → MLo M n kd ld bw (brS mb mh ht (ltI f m i) m) dr hd tr → i + d = c → d < fuel → ∃ M' : MM, g_X11_canSplit_10 fuel M (nI o) (nI m) (nI c) (1 : Int32) (nI i) = some (b2i (chQ cb (ofI f m) d i (ltI f m i)), M') ∧ (∀ j, j < 8 → M' 90 j = M 99 j) ∧ ∀ k j, k ≠ 90 → k ≠ 93 → M' k j = M k j := by
  have n8 := R.1
  have a9 : ∀ X, ∀ j, j < 8 → brS mb mh ht X m j ≤ 9 := fun X => brS_9 m (fun j hj => (R.2.1 j hj).2.2.2.1) (fun j hj => (mv j hj).2)
  intro d
  induction d with
  | zero =>
    intro i fuel M h1 h2 h3 h4
    obtain ⟨f', rfl⟩ : ∃ f, fuel = f + 1 := ⟨fuel - 1, by omega⟩
    obtain rfl : i = c := by omega
    obtain ⟨Mp, p0, p1, p2⟩ := m_putH M
    rw [g_X11_canSplit_10, if_pos (nI_le (Nat.le_refl i) (by omega)), p0, br_s, if_pos (by decide)]
    exact ⟨Mp, rfl, p1, fun k j r _ => p2 k j r⟩
  | succ d ih =>
    intro i fuel M h1 h2 h3 h4
    obtain ⟨f', rfl⟩ : ∃ f, fuel = f + 1 := ⟨fuel - 1, by omega⟩
    obtain ⟨Mg, g0, g1, g2⟩ := m_goalsN (M := M) n8 h2.1
    rw [g_X11_canSplit_10, if_neg (nI_ge (by omega) (by omega)), if_neg (by decide), g0, br_s]
    obtain ⟨Ma, i1, i2, i3⟩ := m_csI (mb := mb) (mh := mh) (o := o) (c := c) (i := i) hm ho n8 (f := f) (h := brS mb mh ht (ltI f m i) m) hf (by omega) (g_X11_canSplit_10 f') (fun k hk => (mv k hk).1) m 0 FU Mg (fun k hk => by rw [g2 _ _ (by omega), g2 _ _ (by omega), g2 _ _ (by omega)]; exact h1 k hk) (fun j hj => by rw [g1 j hj]; exact h2.2.2.2.2.2.1 j (by omega)) (by omega) (by have := FU_eq; omega)
    have i1' : g_X11_canSplit_28 (g_X11_canSplit_10 f') FU Mg (nI o) (nI m) (nI c) (nI i) 0 = _ := i1
    rw [i1']
    rw [brS_or hi, ltI_s] at i2
    have U : ∀ k j, k ≠ 93 → Ma k j = M k j := fun k j r => by rw [i3 k j r, g2 k j (by omega)]
    have hMa : MLo Ma n kd ld bw (brS mb mh ht (ltI f m i) m) dr hd tr := h2.cong (fun k j _ r => U k j (by unfold relLo at r; omega))
    obtain ⟨r, r1, r2⟩ := m_canBe (M := Ma) (b := brS mb mh ht (ltI f m (i + 1)) m) hMa (R.hts (a9 _) R.2.2.1) hn (fun j hj => ⟨i2 j hj, a9 _ j (by omega)⟩)
    rw [r2, br_s, chQ_s]
    have er : r = cb (ltI f m i) (ofI f m i) := by
      have e1 : (r = true) ↔ (cb (ltI f m i) (ofI f m i) = true) := by rw [r1, hcb, ltI_s]
      cases r <;> cases hq : cb (ltI f m i) (ofI f m i) <;> simp_all
    rw [← er]
    cases r with
    | false =>
      rw [if_pos (show b2i false = 0 from rfl), if_neg (by decide)]
      obtain ⟨f2, rfl⟩ : ∃ f, f' = f + 1 := ⟨f' - 1, by omega⟩
      obtain ⟨Mp, p0, p1, p2⟩ := m_putH Ma
      have ep : ∀ X : Option (Int32 × MM), (if (nI c) ≤ nI (i + 1) then (br (f_X11_putHeights Ma) fun M5 => (if nb (b2i false) = true then some (b2i false, M5) else none)) else (if b2i false = 0 then (br (f_X11_putHeights Ma) fun M8 => (if nb (b2i false) = true then some (b2i false, M8) else none)) else X)) = some (b2i false, Mp) := fun X => by
        rw [p0, br_s, if_pos (show nb (b2i false) = true by decide), if_pos (show b2i false = 0 from rfl)]
        split <;> rfl
      rw [g_X11_canSplit_10, ep]
      exact ⟨Mp, rfl, fun j hj => by rw [p1 j hj, U _ _ (by omega)], fun k j r1 r2 => by rw [p2 k j r1, U k j r2]⟩
    | true =>
      obtain ⟨Mh, k0, k1, k2⟩ := m_goesN (M := Ma) n8 hMa.1
      rw [if_neg (by decide), if_pos rfl, k0, br_s, ltI_s]
      obtain ⟨M', e1, e2, e3⟩ := ih (i + 1) f' Mh (fun k hk => by rw [k2 _ _ (by omega), k2 _ _ (by omega), k2 _ _ (by omega), U _ _ (by omega), U _ _ (by omega), U _ _ (by omega)]; exact h1 k hk) (h2.hts (fun k j _ r1 r2 => by rw [k2 k j (by omega), U k j (by unfold relLo at r2; omega)]) (fun j hj => by
        by_cases e : j < n
        · rw [k1 j e]; exact i2 j e
        · rw [k2 _ _ (by omega), U _ _ (by omega), h2.2.2.2.2.2.1 j hj, brS_out _ _ _ m (fun k hk => by have := (mv k hk).1; omega), brS_out _ _ _ m (fun k hk => by have := (mv k hk).1; omega)])) (by omega) (by omega)
      exact ⟨M', e1, fun j hj => by rw [e2 j hj, k2 _ _ (by omega), U _ _ (by omega)], fun k j r1 r2 => by rw [e3 k j r1 r2, k2 k j (by omega), U k j r2]⟩
theorem m_cs {M : MM} (h : MLo M n kd ld bw ht dr hd tr) (R : Rng n kd ld bw ht dr hd tr) (hn : 1 ≤ n) {o c : Nat} (hm : m ≤ 5) (hc : c ≤ 5) (ho : o + 2 * m ≤ 240) (hi : injM m mb) (hcb : ∀ D s, cb D s = true ↔ CAN n (pl kd ld bw) dr (brS mb mh ht D m) (brS mb mh ht (D ||| s) m) hd) {f : Nat → Nat} (hf : ∀ k, k < m → f k < 10) (mv : ∀ k, k < m → mb k < n ∧ mh k ≤ 9) (h1 : ∀ k, k < m → M 101 k = nI (f k) ∧ M 86 (o + 2 * k) = nI (mb k) ∧ M 86 (o + 2 * k + 1) = nI (mh k)) : ∃ M' : MM, f_X11_canSplit M (nI o) (nI m) (nI c) = some (b2i (chQ cb (ofI f m) c 0 0), M') ∧ ∀ k j, k ≠ 93 → k ≠ 99 → (k = 90 → j < 8) → M' k j = M k j := by
  obtain ⟨Mk, k0, k1, k2⟩ := m_keepH M
  have h0 : brS mb mh ht (ltI f m 0) m = ht := by
    rw [ltI_0]
    have : ∀ i, brS mb mh ht 0 i = ht := by
      intro i
      induction i with
      | zero => rfl
      | succ i ih =>
        funext j
        rw [brS_s, Nat.zero_testBit, if_neg (fun z => by cases z.1), ih]
    exact this m
  obtain ⟨M', e1, e2, e3⟩ := m_csL R hn hm hc ho hi hcb hf mv c 0 FU Mk (fun k hk => by rw [k2 _ _ (by omega), k2 _ _ (by omega), k2 _ _ (by omega)]; exact h1 k hk) (by rw [h0]; exact h.cong (fun k j _ r => k2 k j (by unfold relLo at r; omega))) (by omega) (by have := FU_eq; omega)
  rw [ltI_0] at e1
  refine ⟨M', ?_, fun k j r1 r2 r3 => ?_⟩
  · unfold f_X11_canSplit
    rw [k0, br_s]
    exact e1
  · by_cases e : k = 90
    · subst e
      rw [e2 j (r3 rfl), k1 j (r3 rfl)]
    · rw [e3 k j e r1, k2 k j r2]
end SPF
