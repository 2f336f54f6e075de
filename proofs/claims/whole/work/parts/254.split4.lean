-- the reference goes through the rows
section SPG
variable {n : Nat} {kd ld bw ht dr : Nat → Nat} {hd tr m : Nat} {mb mh : Nat → Nat} {cb nx : Nat → Nat → Bool}
theorem m_dgL {o c : Nat} (hc : c ≤ 5) {v4 v5 : Int32} (rec2 : MM → Int32 → Int32 → Int32 → Option (Int32 × MM)) (rec34 : MM → Int32 → Int32 → Int32 → Int32 → Int32 → Option (Int32 × MM)) : ∀ (i fuel rest : Nat) (M : MM), i ≤ 5 → i < fuel → rest < 10000 → (0 < c ∨ i = 0) → ∃ M' : MM, g_X11_findSplit_50 rec2 rec34 fuel M (nI o) (nI m) (nI c) v4 v5 (nI rest) (nI i - (1 : Int32)) = (bi (f_X11_canSplit M' (nI o) (nI m) (nI c)) fun r3 M4 => (if r3 = 0 then rec34 M4 (nI o) (nI m) (nI c) v4 (v5 + (1 : Int32)) else g_X11_findSplit_91 FU M4 (nI m) (nI c) (0 : Int32))) ∧ (∀ k, k < i → M' 101 k = nI (rdD c i rest k)) ∧ (∀ k, i ≤ k → M' 101 k = M 101 k) ∧ ∀ k j, k ≠ 101 → M' k j = M k j := by
  intro i
  induction i with
  | zero =>
    intro fuel rest M h1 h2 h3 h4
    obtain ⟨f, rfl⟩ : ∃ f, fuel = f + 1 := ⟨fuel - 1, by omega⟩
    rw [g_X11_findSplit_50, if_pos (by decide)]
    exact ⟨M, rfl, fun k hk => by omega, fun _ _ => rfl, fun _ _ _ => rfl⟩
  | succ i ih =>
    intro fuel rest M h1 h2 h3 h4
    obtain ⟨f, rfl⟩ : ∃ f, fuel = f + 1 := ⟨fuel - 1, by omega⟩
    have hb : 0 < c := by omega
    have nb0 : ¬ nI c = 0 := nI_n0 hb (by omega)
    have er : rm32 (nI rest) (nI c) = nI (rest % c) := pk_rem (by omega) hb (by omega)
    have hdv : rest / c ≤ rest := Nat.div_le_self _ _
    rw [g_X11_findSplit_50, dm1, if_neg (nI_pos (by omega)), if_neg nb0, if_pos (ib_ok (show i < 5 by omega) (by omega)), nI_clamp (by omega), er, nm_eq, if_neg nb0, nm_eq, dm2, pk_div (by omega) hb (by omega)]
    obtain ⟨M', e1, e2, e3, e4⟩ := ih f (rest / c) (up2 M 101 i (nI (rest % c))) (by omega) (by omega) (by omega) (Or.inl hb)
    refine ⟨M', e1, fun k hk => ?_, fun k hk => by rw [e3 k (by omega), up2_of (by omega)], fun k j r => by rw [e4 k j r, up2_of (by omega)]⟩
    rw [rdD_s]
    by_cases e : k = i
    · subst e
      rw [if_pos rfl, e3 k (Nat.le_refl k), up2_at]
    · rw [if_neg e]
      exact e2 k (by omega)
theorem m_cpL (hm : m ≤ 5) {c : Nat} : ∀ (d i fuel : Nat) (M : MM), i + d = m → d < fuel → ∃ M' : MM, g_X11_findSplit_91 fuel M (nI m) (nI c) (nI i) = some (nI c, M') ∧ (∀ k, i ≤ k → k < m → M' 102 k = M 101 k) ∧ ∀ k j, ¬ (k = 102 ∧ i ≤ j) → M' k j = M k j := by
  intro d
  induction d with
  | zero =>
    intro i fuel M h1 h2
    obtain ⟨f, rfl⟩ : ∃ f, fuel = f + 1 := ⟨fuel - 1, by omega⟩
    obtain rfl : i = m := by omega
    rw [g_X11_findSplit_91, if_pos (nI_le (Nat.le_refl i) (by omega))]
    exact ⟨M, rfl, fun k g1 g2 => by omega, fun _ _ _ => rfl⟩
  | succ d ih =>
    intro i fuel M h1 h2
    obtain ⟨f, rfl⟩ : ∃ f, fuel = f + 1 := ⟨fuel - 1, by omega⟩
    have bo := ib_ok (show i < 5 by omega) (show 5 ≤ 2 ^ 31 by omega)
    rw [g_X11_findSplit_91, if_neg (nI_ge (by omega) (by omega)), if_pos bo, if_pos bo, nI_clamp (by omega), nm_eq, show nI i + (1 : Int32) = nI (i + 1) from nI_1 i]
    obtain ⟨M', e1, e2, e3⟩ := ih (i + 1) f (up2 M 102 i (M 101 i)) (by omega) (by omega)
    refine ⟨M', e1, fun k g1 g2 => ?_, fun k j r => by rw [e3 k j (by omega), up2_of (by omega)]⟩
    by_cases e : k = i
    · subst e
      rw [e3 _ _ (by omega), up2_at]
    · rw [e2 k (by omega) g2, up2_of (by omega)]
theorem m_rowsL (R : Rng n kd ld bw ht dr hd tr) (hn : 1 ≤ n) {o c : Nat} (hm : m ≤ 5) (hc : c ≤ 5) (ho : o + 2 * m ≤ 240) (hi : injM m mb) (hcb : ∀ D s, cb D s = true ↔ CAN n (pl kd ld bw) dr (brS mb mh ht D m) (brS mb mh ht (D ||| s) m) hd) (mv : ∀ k, k < m → mb k < n ∧ mh k ≤ 9) (rec2 : MM → Int32 → Int32 → Int32 → Option (Int32 × MM)) : ∀ (d r fuel : Nat) (M : MM), (∀ k, k < m → M 86 (o + 2 * k) = nI (mb k) ∧ M 86 (o + 2 * k + 1) = nI (mh k)) → MLo M n kd ld bw ht dr hd tr → r + d = c ^ m → d < fuel → ((∀ x, r ≤ x → x < c ^ m → chQ cb (ofI (rdD c m x) m) c 0 0 = false) → ∃ M' : MM, g_X11_findSplit_34 rec2 fuel M (nI o) (nI m) (nI c) (nI (c ^ m)) (nI r) = rec2 M' (nI o) (nI m) (nI (c + 1)) ∧ ∀ k j, k ≠ 93 → k ≠ 99 → k ≠ 101 → k ≠ 102 → (k = 90 → j < 8) → M' k j = M k j) ∧ (∀ r0, r ≤ r0 → r0 < c ^ m → chQ cb (ofI (rdD c m r0) m) c 0 0 = true → (∀ x, r ≤ x → x < r0 → chQ cb (ofI (rdD c m x) m) c 0 0 = false) → ∃ M' : MM, g_X11_findSplit_34 rec2 fuel M (nI o) (nI m) (nI c) (nI (c ^ m)) (nI r) = some (nI c, M') ∧ (∀ k, k < m → M' 102 k = nI (rdD c m r0 k)) ∧ ∀ k j, k ≠ 93 → k ≠ 99 → k ≠ 101 → k ≠ 102 → (k = 90 → j < 8) → M' k j = M k j) := by
  have pw := pw_d c (by omega) m (by omega)
  intro d
  induction d with
  | zero =>
    intro r fuel M h1 h2 h3 h4
    obtain ⟨f, rfl⟩ : ∃ f, fuel = f + 1 := ⟨fuel - 1, by omega⟩
    obtain rfl : r = c ^ m := by omega
    refine ⟨fun _ => ⟨M, ?_, fun _ _ _ _ _ _ _ => rfl⟩, fun r0 g1 g2 => by omega⟩
    rw [g_X11_findSplit_34, if_pos (nI_le (Nat.le_refl _) (by omega)), show nI c + (1 : Int32) = nI (c + 1) from nI_1 c]
  | succ d ih =>
    intro r fuel M h1 h2 h3 h4
    obtain ⟨f, rfl⟩ : ∃ f, fuel = f + 1 := ⟨fuel - 1, by omega⟩
    have hc0 : 0 < c ∨ m = 0 := by
      by_cases e : c = 0
      · by_cases e2 : m = 0
        · exact Or.inr e2
        · rw [e, Nat.zero_pow (by omega)] at h3
          omega
      · omega
    obtain ⟨M1, a1, a2, a3, a4⟩ := m_dgL (o := o) (m := m) (c := c) (v4 := nI (c ^ m)) (v5 := nI r) hc rec2 (g_X11_findSplit_34 rec2 f) m FU r M hm (by have := FU_eq; omega) (by omega) hc0
    have hM1 : MLo M1 n kd ld bw ht dr hd tr := h2.cong (fun k j _ q => a4 k j (by unfold relLo at q; omega))
    obtain ⟨M2, b1, b2⟩ := m_cs (M := M1) hM1 R hn hm hc ho hi hcb (f := rdD c m r) (fun k hk => Nat.lt_of_lt_of_le (rdD_lt (b := c) (by omega) m r k) (show c ≤ 10 by omega)) mv (fun k hk => ⟨a2 k hk, by rw [a4 _ _ (by omega)]; exact (h1 k hk).1, by rw [a4 _ _ (by omega)]; exact (h1 k hk).2⟩)
    have U : ∀ k j, k ≠ 93 → k ≠ 99 → k ≠ 101 → (k = 90 → j < 8) → M2 k j = M k j := fun k j r1 r2 r3 r4 => by rw [b2 k j r1 r2 r4, a4 k j r3]
    have hM2 : MLo M2 n kd ld bw ht dr hd tr := h2.cong (fun k j _ q => U k j (by unfold relLo at q; omega) (by unfold relLo at q; omega) (by unfold relLo at q; omega) (by unfold relLo at q; omega))
    have E : g_X11_findSplit_34 rec2 (f + 1) M (nI o) (nI m) (nI c) (nI (c ^ m)) (nI r) = (if b2i (chQ cb (ofI (rdD c m r) m) c 0 0) = 0 then g_X11_findSplit_34 rec2 f M2 (nI o) (nI m) (nI c) (nI (c ^ m)) (nI (r + 1)) else g_X11_findSplit_91 FU M2 (nI m) (nI c) (0 : Int32)) := by
      rw [g_X11_findSplit_34, if_neg (nI_ge (by omega) (by omega)), nm_eq, a1, b1, bi_s, show nI r + (1 : Int32) = nI (r + 1) from nI_1 r]
    obtain ⟨ihA, ihB⟩ := ih (r + 1) f M2 (fun k hk => by rw [U _ _ (by omega) (by omega) (by omega) (by omega), U _ _ (by omega) (by omega) (by omega) (by omega)]; exact h1 k hk) hM2 (by omega) (by omega)
    refine ⟨fun hno => ?_, fun r0 g1 g2 g3 g4 => ?_⟩
    · rw [E, hno r (Nat.le_refl r) (by omega), if_pos (show b2i false = 0 from rfl)]
      obtain ⟨M', e1, e2⟩ := ihA (fun x q1 q2 => hno x (by omega) q2)
      exact ⟨M', e1, fun k j r1 r2 r3 r4 r5 => by rw [e2 k j r1 r2 r3 r4 r5, U k j r1 r2 r3 r5]⟩
    · by_cases e : r = r0
      · subst e
        rw [E, g3, if_neg (by decide)]
        obtain ⟨M', e1, e2, e3⟩ := m_cpL (m := m) hm (c := c) m 0 FU M2 (by omega) (by have := FU_eq; omega)
        refine ⟨M', e1, fun k hk => ?_, fun k j r1 r2 r3 r4 r5 => by rw [e3 k j (by omega), U k j r1 r2 r3 r5]⟩
        rw [e2 k (by omega) hk, b2 _ _ (by omega) (by omega) (by omega)]
        exact a2 k hk
      · rw [E, g4 r (Nat.le_refl r) (by omega), if_pos (show b2i false = 0 from rfl)]
        obtain ⟨M', e1, e2, e3⟩ := ihB r0 (by omega) g2 g3 (fun x q1 q2 => g4 x (by omega) q2)
        exact ⟨M', e1, e2, fun k j r1 r2 r3 r4 r5 => by rw [e3 k j r1 r2 r3 r4 r5, U k j r1 r2 r3 r5]⟩
theorem m_powL {o c : Nat} (hm : m ≤ 5) (rec2 : MM → Int32 → Int32 → Int32 → Option (Int32 × MM)) {M : MM} : ∀ (d i fuel : Nat), i + d = m → d < fuel → g_X11_findSplit_13 rec2 fuel M (nI o) (nI m) (nI c) (nI (c ^ i)) (nI i) = g_X11_findSplit_34 rec2 FU M (nI o) (nI m) (nI c) (nI (c ^ m)) (0 : Int32) := by
  intro d
  induction d with
  | zero =>
    intro i fuel h1 h2
    obtain ⟨f, rfl⟩ : ∃ f, fuel = f + 1 := ⟨fuel - 1, by omega⟩
    obtain rfl : i = m := by omega
    rw [g_X11_findSplit_13, if_pos (nI_le (Nat.le_refl i) (by omega))]
  | succ d ih =>
    intro i fuel h1 h2
    obtain ⟨f, rfl⟩ : ∃ f, fuel = f + 1 := ⟨fuel - 1, by omega⟩
    rw [g_X11_findSplit_13, if_neg (nI_ge (by omega) (by omega)), pk_mul, ← Nat.pow_succ, nm_eq, show nI i + (1 : Int32) = nI (i + 1) from nI_1 i]
    exact ih (i + 1) f (by omega) (by omega)
theorem m_fsL (R : Rng n kd ld bw ht dr hd tr) (hn : 1 ≤ n) {o : Nat} (hm : m ≤ 5) (ho : o + 2 * m ≤ 240) (hi : injM m mb) (hcb : ∀ D s, cb D s = true ↔ CAN n (pl kd ld bw) dr (brS mb mh ht D m) (brS mb mh ht (D ||| s) m) hd) (mv : ∀ k, k < m → mb k < n ∧ mh k ≤ 9) : ∀ (d c fuel : Nat) (M : MM), (∀ k, k < m → M 86 (o + 2 * k) = nI (mb k) ∧ M 86 (o + 2 * k + 1) = nI (mh k)) → MLo M n kd ld bw ht dr hd tr → c + d = m + 1 → d < fuel → ((∀ c', c ≤ c' → c' ≤ m → ∀ x, x < c' ^ m → chQ cb (ofI (rdD c' m x) m) c' 0 0 = false) → ∃ M' : MM, g_X11_findSplit_2 fuel M (nI o) (nI m) (nI c) = some (-9, M') ∧ ∀ k j, k ≠ 93 → k ≠ 99 → k ≠ 101 → k ≠ 102 → (k = 90 → j < 8) → M' k j = M k j) ∧ (∀ c0 r0, c ≤ c0 → c0 ≤ m → (∀ c', c ≤ c' → c' < c0 → ∀ x, x < c' ^ m → chQ cb (ofI (rdD c' m x) m) c' 0 0 = false) → r0 < c0 ^ m → chQ cb (ofI (rdD c0 m r0) m) c0 0 0 = true → (∀ x, x < r0 → chQ cb (ofI (rdD c0 m x) m) c0 0 0 = false) → ∃ M' : MM, g_X11_findSplit_2 fuel M (nI o) (nI m) (nI c) = some (nI c0, M') ∧ (∀ k, k < m → M' 102 k = nI (rdD c0 m r0 k)) ∧ ∀ k j, k ≠ 93 → k ≠ 99 → k ≠ 101 → k ≠ 102 → (k = 90 → j < 8) → M' k j = M k j) := by
  intro d
  induction d with
  | zero =>
    intro c fuel M h1 h2 h3 h4
    obtain ⟨f, rfl⟩ : ∃ f, fuel = f + 1 := ⟨fuel - 1, by omega⟩
    refine ⟨fun _ => ⟨M, ?_, fun _ _ _ _ _ _ _ => rfl⟩, fun c0 r0 g1 g2 => by omega⟩
    rw [g_X11_findSplit_2, if_pos (nI_lt (by omega) (by omega))]
  | succ d ih =>
    intro c fuel M h1 h2 h3 h4
    obtain ⟨f, rfl⟩ : ∃ f, fuel = f + 1 := ⟨fuel - 1, by omega⟩
    have pw := pw_d c (by omega) m (by omega)
    have E : g_X11_findSplit_2 (f + 1) M (nI o) (nI m) (nI c) = g_X11_findSplit_34 (g_X11_findSplit_2 f) FU M (nI o) (nI m) (nI c) (nI (c ^ m)) (nI 0) := by
      rw [g_X11_findSplit_2, if_neg (nI_nlt (by omega) (by omega))]
      exact m_powL hm (g_X11_findSplit_2 f) m 0 FU (by omega) (by have := FU_eq; omega)
    obtain ⟨rA, rB⟩ := m_rowsL R hn hm (c := c) (by omega) ho hi hcb mv (g_X11_findSplit_2 f) (c ^ m) 0 FU M h1 h2 (by omega) (by have := FU_eq; omega)
    have go : (∀ x, x < c ^ m → chQ cb (ofI (rdD c m x) m) c 0 0 = false) → ∃ M1 : MM, g_X11_findSplit_2 (f + 1) M (nI o) (nI m) (nI c) = g_X11_findSplit_2 f M1 (nI o) (nI m) (nI (c + 1)) ∧ ∀ k j, k ≠ 93 → k ≠ 99 → k ≠ 101 → k ≠ 102 → (k = 90 → j < 8) → M1 k j = M k j := fun hno => by
      obtain ⟨M1, e1, e2⟩ := rA (fun x _ hx => hno x hx)
      exact ⟨M1, by rw [E, e1], e2⟩
    refine ⟨fun hno => ?_, fun c0 r0 g1 g2 g3 g4 g5 g6 => ?_⟩
    · obtain ⟨M1, e1, e2⟩ := go (hno c (Nat.le_refl c) (by omega))
      obtain ⟨ihA, -⟩ := ih (c + 1) f M1 (fun k hk => by rw [e2 _ _ (by omega) (by omega) (by omega) (by omega) (by omega), e2 _ _ (by omega) (by omega) (by omega) (by omega) (by omega)]; exact h1 k hk) (h2.cong (fun k j _ q => e2 k j (by unfold relLo at q; omega) (by unfold relLo at q; omega) (by unfold relLo at q; omega) (by unfold relLo at q; omega) (by unfold relLo at q; omega))) (by omega) (by omega)
      obtain ⟨M', f1, f2⟩ := ihA (fun c' q1 q2 => hno c' (by omega) q2)
      exact ⟨M', by rw [e1, f1], fun k j r1 r2 r3 r4 r5 => by rw [f2 k j r1 r2 r3 r4 r5, e2 k j r1 r2 r3 r4 r5]⟩
    · by_cases e : c = c0
      · subst e
        obtain ⟨M', e1, e2, e3⟩ := rB r0 (by omega) g4 g5 (fun x _ hx => g6 x hx)
        exact ⟨M', by rw [E, e1], e2, e3⟩
      · obtain ⟨M1, e1, e2⟩ := go (g3 c (Nat.le_refl c) (by omega))
        obtain ⟨-, ihB⟩ := ih (c + 1) f M1 (fun k hk => by rw [e2 _ _ (by omega) (by omega) (by omega) (by omega) (by omega), e2 _ _ (by omega) (by omega) (by omega) (by omega) (by omega)]; exact h1 k hk) (h2.cong (fun k j _ q => e2 k j (by unfold relLo at q; omega) (by unfold relLo at q; omega) (by unfold relLo at q; omega) (by unfold relLo at q; omega) (by unfold relLo at q; omega))) (by omega) (by omega)
        obtain ⟨M', f1, f2, f3⟩ := ihB c0 r0 (by omega) g2 (fun c' q1 q2 => g3 c' (by omega) q2) g4 g5 g6
        exact ⟨M', by rw [e1, f1], f2, fun k j r1 r2 r3 r4 r5 => by rw [f3 k j r1 r2 r3 r4 r5, e2 k j r1 r2 r3 r4 r5]⟩
end SPG
/-- what both sides find: nothing, or the same row of the same number of cues -/
theorem sp_pure {m : Nat} (hm : m ≤ 5) {cb nx : Nat → Nat → Bool} (hnx : ∀ D s, nx D s = true ↔ (1 ≤ s ∧ s ≤ 2 ^ m - 1 ∧ s &&& D = 0 ∧ cb D s = true)) : ((∀ c, ¬ RR (nxP nx) (2 ^ m - 1) c 0) ∧ ∀ c', c' ≤ m → ∀ x, x < c' ^ m → chQ cb (ofI (rdD c' m x) m) c' 0 0 = false) ∨ ∃ c r0, c ≤ m ∧ RR (nxP nx) (2 ^ m - 1) c 0 ∧ (∀ c', c' < c → ¬ RR (nxP nx) (2 ^ m - 1) c' 0) ∧ r0 < c ^ m ∧ (chQ nx (ofI (rdD (max c 1) m r0) m) c 0 0 = true ∧ ∀ x, x < r0 → chQ nx (ofI (rdD (max c 1) m x) m) c 0 0 = false) ∧ (∀ c', c' < c → ∀ x, x < c' ^ m → chQ cb (ofI (rdD c' m x) m) c' 0 0 = false) ∧ (chQ cb (ofI (rdD c m r0) m) c 0 0 = true ∧ ∀ x, x < r0 → chQ cb (ofI (rdD c m x) m) c 0 0 = false) ∧ ∀ k, rdD (max c 1) m r0 k = rdD c m r0 k := by
  have key : ∀ c x, x < c ^ m → chQ cb (ofI (rdD c m x) m) c 0 0 = true → ∃ c', c' ≤ c ∧ RR (nxP nx) (2 ^ m - 1) c' 0 ∧ (c' = c → chQ nx (ofI (rdD c m x) m) c 0 0 = true) := by
    intro c x hx h
    have hf : ∀ k, k < m → rdD c m x k < c := fun k hk => by
      refine rdD_lt ?_ m x k
      by_cases e : c = 0
      · rw [e, Nat.zero_pow (by omega)] at hx
        omega
      · omega
    have := ch_RR hnx hf c 0 (by omega) (by rw [ltI_0]; exact h)
    rw [ltI_0] at this
    exact this
  by_cases hex : ∃ c, RR (nxP nx) (2 ^ m - 1) c 0
  · right
    obtain ⟨c, hR, hmin⟩ := pk_least _ hex
    have hcm : c ≤ m := by
      have := RR_le hm (nx := nxP nx) (fun D s z => ⟨((hnx D s).mp z).1, ((hnx D s).mp z).2.1, ((hnx D s).mp z).2.2.1⟩) c 0 (by omega) hR
      omega
    have eb : ∀ x k, x < c ^ m → rdD (max c 1) m x k = rdD c m x k := fun x k hx => by
      by_cases e : c = 0
      · by_cases e2 : m = 0
        · subst e2; rfl
        · rw [e, Nat.zero_pow (by omega)] at hx
          omega
      · rw [show max c 1 = c by omega]
    have same : ∀ x, x < c ^ m → chQ nx (ofI (rdD (max c 1) m x) m) c 0 0 = chQ cb (ofI (rdD c m x) m) c 0 0 := fun x hx => by
      rw [show rdD (max c 1) m x = rdD c m x from funext (fun k => eb x k hx)]
      cases q : chQ cb (ofI (rdD c m x) m) c 0 0 with
      | true =>
        obtain ⟨c', i1, i2, i3⟩ := key c x hx q
        by_cases e : c' = c
        · exact i3 e
        · exact absurd i2 (hmin c' (by omega))
      | false =>
        cases q2 : chQ nx (ofI (rdD c m x) m) c 0 0 with
        | false => rfl
        | true => rw [ch_mono hnx c 0 0 q2] at q; cases q
    obtain ⟨f, f1, f2⟩ := RR_row hnx c 0 0 hR (by omega)
    have fc : chQ nx (ofI f m) c 0 0 = true := f2 f (fun k hk => by rw [Nat.zero_testBit, if_neg (by decide)]) (fun k hk q => by rw [Nat.zero_testBit] at q; cases q)
    obtain ⟨row, w1, w2⟩ := rdD_ex (b := c) f m (fun k hk => by have := f1 k hk (Nat.zero_testBit k); omega)
    have eo : ofI f m = ofI (rdD c m row) m := by
      funext i
      unfold ofI
      exact stP_cg m (fun k hk => by rw [w2 k hk])
    have hrow : row < c ^ m ∧ chQ cb (ofI (rdD c m row) m) c 0 0 = true := ⟨w1, by rw [← eo]; exact ch_mono hnx c 0 0 fc⟩
    obtain ⟨r0, ⟨h1, h2⟩, h3⟩ := pk_least (fun r => r < c ^ m ∧ chQ cb (ofI (rdD c m r) m) c 0 0 = true) ⟨row, hrow⟩
    have hno : ∀ x, x < r0 → chQ cb (ofI (rdD c m x) m) c 0 0 = false := fun x hx => by
      cases q : chQ cb (ofI (rdD c m x) m) c 0 0 with
      | false => rfl
      | true => exact absurd ⟨by omega, q⟩ (h3 x hx)
    refine ⟨c, r0, hcm, hR, hmin, h1, ⟨by rw [same r0 h1]; exact h2, fun x hx => by rw [same x (by omega)]; exact hno x hx⟩, fun c' hc' x hx => ?_, ⟨h2, hno⟩, fun k => eb r0 k h1⟩
    cases q : chQ cb (ofI (rdD c' m x) m) c' 0 0 with
    | false => rfl
    | true =>
      obtain ⟨c2, i1, i2, -⟩ := key c' x hx q
      exact absurd i2 (hmin c2 (by omega))
  · left
    refine ⟨fun c z => hex ⟨c, z⟩, fun c' hc' x hx => ?_⟩
    cases q : chQ cb (ofI (rdD c' m x) m) c' 0 0 with
    | false => rfl
    | true =>
      obtain ⟨c2, i1, i2, -⟩ := key c' x hx q
      exact absurd ⟨c2, i2⟩ hex
