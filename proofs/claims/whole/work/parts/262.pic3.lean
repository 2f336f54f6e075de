section PCM
variable {n : Nat} {kd ld bw ht dr : Nat → Nat} {hd tr : Nat}
/-- where find goes on, when all is told -/
def KP (M : MM) (v2 : Int32) : Option (Int32 × MM) := (if ib (M 23 5) 90 = true then (nm (M 74 (M 23 5).toNatClampNeg) fun x3 => (if x3 < (1000000 : Int32) then (nm (up2 M 71 4 (x3 / (1000 : Int32))) fun M4 => (nm (up2 M4 71 5 (rm32 x3 (1000 : Int32))) fun M5 => (br (f_X4_choose M5 v2) fun M7 => (some ((1 : Int32), M7))))) else (some ((0 : Int32), M)))) else none)
theorem Dn.cong {M M' : MM} {P : Nat → Nat} {s b : Nat} (hD : Dn M ht dr P hd s n b) (a : ∀ x j, 72 ≤ x → x ≤ 74 → M' x j = M x j) : Dn M' ht dr P hd s n b := ⟨fun x g1 g2 k hk => by rw [a _ _ (by omega) (by omega), a _ _ (by omega) (by omega)]; exact hD.1 x g1 g2 k hk, fun x g1 g2 bd hbd => by rw [a _ _ (by omega) (by omega)]; exact hD.2 x g1 g2 bd hbd⟩
theorem c_pfL (R : Rng n kd ld bw ht dr hd tr) {s : Nat} (hs : s < 256) : ∀ (i fuel : Nat) (M : MM), CLo M n kd ld bw ht dr hd tr → Dn M ht dr (pl kd ld bw) hd s n i → i ≤ n → i < fuel → ∃ M' : MM, g_X4_find_36 fuel M (nI s) (nI i - (1 : Int32)) = KP M' (nI s) ∧ Dn M' ht dr (pl kd ld bw) hd s n 0 ∧ ∀ x j, ¬ (72 ≤ x ∧ x ≤ 74) → M' x j = M x j := by
  have n8 := R.1
  intro i
  induction i with
  | zero =>
    intro fuel M h hD h1 h2
    obtain ⟨f, rfl⟩ : ∃ f, fuel = f + 1 := ⟨fuel - 1, by omega⟩
    rw [g_X4_find_36, if_pos (by decide)]
    exact ⟨M, rfl, hD, fun _ _ _ => rfl⟩
  | succ i ih =>
    intro fuel M h hD h1 h2
    obtain ⟨f, rfl⟩ : ∃ f, fuel = f + 1 := ⟨fuel - 1, by omega⟩
    obtain ⟨M1, a1, a2, a3⟩ := c_setT h R (b := i) (by omega)
    rw [g_X4_find_36, dm1, if_neg (nI_pos (by omega)), a1, br_s]
    have h1' : CLo M1 n kd ld bw ht dr hd tr := h.cong (fun k j _ r => a3 k j (by unfold relLo at r; omega))
    obtain ⟨M2, b1, b2, b3⟩ := c_bdL R (b := i) (s := s) (by omega) hs (g_X4_find_36 f) 10 0 FU M1 h1' a2 ⟨fun x g1 g2 k hk => by rw [a3 _ _ (by omega), a3 _ _ (by omega)]; exact hD.1 x g1 g2 k hk, fun x g1 g2 bd hbd => by rw [a3 _ _ (by omega)]; exact hD.2 x g1 g2 bd hbd⟩ (fun x hx => by omega) (by omega) (by have := FU_eq; omega)
    have b1' : g_X4_find_49 (g_X4_find_36 f) FU M1 (nI s) (nI i) 0 = _ := b1
    rw [b1']
    obtain ⟨M', e1, e2, e3⟩ := ih f M2 (h1'.cong (fun k j _ r => b3 k j (by unfold relLo at r; omega))) b2 (by omega) (by omega)
    exact ⟨M', e1, e2, fun x j r => by rw [e3 x j r, b3 x j (by omega), a3 x j (by omega)]⟩
theorem c_p0L (n8 : n ≤ 8) {s : Nat} : ∀ (d i fuel : Nat) (M : MM), M 20 3 = nI n → i + d = 10 → d < fuel → ∃ M' : MM, g_X4_find_2 fuel M (nI s) (nI i) = g_X4_find_36 FU M' (nI s) (nI n - (1 : Int32)) ∧ (∀ x, i ≤ x → x < 10 → M' 74 (10 * n + x) = 0) ∧ ∀ x j, ¬ (x = 74 ∧ 10 * n + i ≤ j) → M' x j = M x j := by
  intro d
  induction d with
  | zero =>
    intro i fuel M h1 h2 h3
    obtain ⟨f, rfl⟩ : ∃ f, fuel = f + 1 := ⟨fuel - 1, by omega⟩
    obtain rfl : i = 10 := by omega
    rw [g_X4_find_2, if_pos (by decide), h1, nm_eq]
    exact ⟨M, rfl, fun x g1 g2 => by omega, fun _ _ _ => rfl⟩
  | succ d ih =>
    intro i fuel M h1 h2 h3
    obtain ⟨f, rfl⟩ : ∃ f, fuel = f + 1 := ⟨fuel - 1, by omega⟩
    rw [g_X4_find_2, if_neg (show ¬ (10 : Int32) ≤ nI i from nI_ge (b := 10) (by omega) (by omega)), h1, show nI n * (10 : Int32) = nI (n * 10) from pk_mul n 10, nI_add, show n * 10 + i = 10 * n + i by omega, if_pos (ib_ok (by omega) (by omega)), nI_clamp (by omega), nm_eq, show nI i + (1 : Int32) = nI (i + 1) from nI_1 i]
    obtain ⟨M', e1, e2, e3⟩ := ih (i + 1) f (up2 M 74 (10 * n + i) 0) (by rw [up2_of (by omega)]; exact h1) (by omega) (by omega)
    refine ⟨M', e1, fun x g1 g2 => ?_, fun x j r => by rw [e3 x j (by omega), up2_of (by omega)]⟩
    by_cases e : x = i
    · subst e
      rw [e3 _ _ (by omega), up2_at]
    · exact e2 x (by omega) g2
theorem c_pf {M : MM} (h : CLo M n kd ld bw ht dr hd tr) (R : Rng n kd ld bw ht dr hd tr) {s : Nat} (hs : s < 256) : ∃ M' : MM, f_X4_find M (nI s) = KP M' (nI s) ∧ Dn M' ht dr (pl kd ld bw) hd s n 0 ∧ ∀ x j, ¬ (72 ≤ x ∧ x ≤ 74) → M' x j = M x j := by
  have n8 := R.1
  obtain ⟨M1, a1, a2, a3⟩ := c_p0L (n := n) (s := s) n8 10 0 FU M h.1 (by omega) (by have := FU_eq; omega)
  obtain ⟨M', e1, e2, e3⟩ := c_pfL R hs n FU M1 (h.cong (fun k j _ r => a3 k j (by unfold relLo at r; omega))) ⟨fun x g1 g2 => by omega, fun x g1 g2 bd hbd => by
    obtain rfl : x = n := by omega
    rw [Nat.sub_self, a2 bd (by omega) hbd]
    rfl⟩ (Nat.le_refl n) (by have := FU_eq; omega)
  have a1' : f_X4_find M (nI s) = _ := a1
  exact ⟨M', by rw [a1', e1], e2, fun x j r => by rw [e3 x j r, a3 x j (by omega)]⟩
/-- which of the three is chosen -/
theorem c_chK {M : MM} (h : CLo M n kd ld bw ht dr hd tr) (R : Rng n kd ld bw ht dr hd tr) {s b bd : Nat} (hs : s < 256) (hb : b < n) (hbd : bd ≤ 9) (hD : Dn M ht dr (pl kd ld bw) hd s n 0) (rec : MM → Int32 → Int32 → Int32 → Option MM) : ∃ k, k < 3 ∧ pla ht b k = chX ht dr (pl kd ld bw) hd (fun i => s.testBit i) (n - (b + 1)) b bd ∧ g_X4_choose_23 rec FU M (nI s) (nI bd) (nI b) (0 : Int32) = g_X4_choose_61 rec M (nI s) (nI bd) (nI b) (nI k) := by
  have n8 := R.1
  have cc : ∀ k, k < 3 → f_X4_costFrom M (nI s) (nI b) (nI bd) (nI k) = some (nI (cFv ht dr (pl kd ld bw) hd (fun i => s.testBit i) b bd (pla ht b k) (Lf ht dr (pl kd ld bw) hd (fun i => s.testBit i) (n - (b + 1)) (b + 1)))) := fun k hk => c_cost h R (by omega) hs hbd hk (hD.1 b (by omega) hb) (fun x hx => ⟨Lf_le _ _ _, hD.2 (b + 1) (by omega) (by omega) x hx⟩)
  have c0 : f_X4_costFrom M (nI s) (nI b) (nI bd) (0 : Int32) = _ := cc 0 (by omega)
  have c1 : f_X4_costFrom M (nI s) (nI b) (nI bd) (1 : Int32) = _ := cc 1 (by omega)
  have lL : M 74 (10 * b + bd) = nI (Lf ht dr (pl kd ld bw) hd (fun i => s.testBit i) (n - (b + 1) + 1) b bd) := by
    rw [show n - (b + 1) + 1 = n - b by omega]
    exact hD.2 b (by omega) (by omega) bd (by omega)
  have ll := Lf_le (own := ht) (dr := dr) (P := pl kd ld bw) (hd := hd) (w := fun i => s.testBit i) (n - (b + 1) + 1) b bd
  have l0 := cFv_le (own := ht) (dr := dr) (P := pl kd ld bw) (hd := hd) (w := fun i => s.testBit i) b bd (pla ht b 0) (Lf ht dr (pl kd ld bw) hd (fun i => s.testBit i) (n - (b + 1)) (b + 1))
  have l1 := cFv_le (own := ht) (dr := dr) (P := pl kd ld bw) (hd := hd) (w := fun i => s.testBit i) b bd (pla ht b 1) (Lf ht dr (pl kd ld bw) hd (fun i => s.testBit i) (n - (b + 1)) (b + 1))
  have bo := ib_ok (show 10 * b + bd < 90 by omega) (show 90 ≤ 2 ^ 31 by omega)
  have ix : nI b * (10 : Int32) + nI bd = nI (10 * b + bd) := by
    rw [show nI b * (10 : Int32) = nI (b * 10) from pk_mul b 10, nI_add, show b * 10 + bd = 10 * b + bd by omega]
  have n20 : ¬ (2 : Int32) ≤ 0 := by decide
  have n21 : ¬ (2 : Int32) ≤ 1 := by decide
  rw [show FU = 6997 + 1 + 1 + 1 from rfl, g_X4_choose_23, if_neg n20, c0, br_s, ix, if_pos bo, nI_clamp (by omega), lL]
  by_cases e0 : cFv ht dr (pl kd ld bw) hd (fun i => s.testBit i) b bd (pla ht b 0) (Lf ht dr (pl kd ld bw) hd (fun i => s.testBit i) (n - (b + 1)) (b + 1)) = Lf ht dr (pl kd ld bw) hd (fun i => s.testBit i) (n - (b + 1) + 1) b bd
  · rw [if_pos (show nI (cFv ht dr (pl kd ld bw) hd (fun i => s.testBit i) b bd (pla ht b 0) (Lf ht dr (pl kd ld bw) hd (fun i => s.testBit i) (n - (b + 1)) (b + 1))) = nI (Lf ht dr (pl kd ld bw) hd (fun i => s.testBit i) (n - (b + 1) + 1) b bd) by rw [e0])]
    refine ⟨0, by omega, ?_, rfl⟩
    unfold chX
    rw [if_pos (show cFv ht dr (pl kd ld bw) hd (fun i => s.testBit i) b bd 0 _ = _ from e0)]
    rfl
  · rw [if_neg (fun z => e0 (nI_inj (by omega) (by omega) z)), show (0 : Int32) + (1 : Int32) = 1 from rfl, g_X4_choose_23, if_neg n21, c1, br_s, ix, if_pos bo, nI_clamp (by omega), lL]
    by_cases e1 : cFv ht dr (pl kd ld bw) hd (fun i => s.testBit i) b bd (pla ht b 1) (Lf ht dr (pl kd ld bw) hd (fun i => s.testBit i) (n - (b + 1)) (b + 1)) = Lf ht dr (pl kd ld bw) hd (fun i => s.testBit i) (n - (b + 1) + 1) b bd
    · rw [if_pos (show nI (cFv ht dr (pl kd ld bw) hd (fun i => s.testBit i) b bd (pla ht b 1) (Lf ht dr (pl kd ld bw) hd (fun i => s.testBit i) (n - (b + 1)) (b + 1))) = nI (Lf ht dr (pl kd ld bw) hd (fun i => s.testBit i) (n - (b + 1) + 1) b bd) by rw [e1])]
      refine ⟨1, by omega, ?_, rfl⟩
      unfold chX
      rw [if_neg (show ¬ cFv ht dr (pl kd ld bw) hd (fun i => s.testBit i) b bd 0 _ = _ from e0), if_pos (show cFv ht dr (pl kd ld bw) hd (fun i => s.testBit i) b bd (ht b) _ = _ from e1)]
      rfl
    · rw [if_neg (fun z => e1 (nI_inj (by omega) (by omega) z)), show (1 : Int32) + (1 : Int32) = 2 from rfl, g_X4_choose_23, if_pos (show (2 : Int32) ≤ 2 by decide)]
      refine ⟨2, by omega, ?_, rfl⟩
      unfold chX
      rw [if_neg (show ¬ cFv ht dr (pl kd ld bw) hd (fun i => s.testBit i) b bd 0 _ = _ from e0), if_neg (show ¬ cFv ht dr (pl kd ld bw) hd (fun i => s.testBit i) b bd (ht b) _ = _ from e1)]
      rfl
theorem c_chL (R : Rng n kd ld bw ht dr hd tr) {s : Nat} (hs : s < 256) : ∀ (d b bd fuel : Nat) (M : MM), CLo M n kd ld bw ht dr hd tr → Dn M ht dr (pl kd ld bw) hd s n 0 → b + d = n → d < fuel → bd ≤ 9 → ∃ M' : MM, g_X4_choose_11 fuel M (nI s) (nI bd) (nI b) = some M' ∧ (∀ j, b ≤ j → j < n → M' 75 j = nI (chH ht dr (pl kd ld bw) hd (fun i => s.testBit i) d b bd j)) ∧ ∀ x j, ¬ (x = 75 ∧ b ≤ j) → M' x j = M x j := by
  have n8 := R.1
  intro d
  induction d with
  | zero =>
    intro b bd fuel M h hD h1 h2 h3
    obtain ⟨f, rfl⟩ : ∃ f, fuel = f + 1 := ⟨fuel - 1, by omega⟩
    obtain rfl : b = n := by omega
    rw [g_X4_choose_11, h.1, if_pos (nI_le (Nat.le_refl b) (by omega))]
    exact ⟨M, rfl, fun j g1 g2 => by omega, fun _ _ _ => rfl⟩
  | succ d ih =>
    intro b bd fuel M h hD h1 h2 h3
    obtain ⟨f, rfl⟩ : ∃ f, fuel = f + 1 := ⟨fuel - 1, by omega⟩
    obtain ⟨k, k1, k2, k3⟩ := c_chK h R (b := b) (bd := bd) hs (by omega) h3 hD (g_X4_choose_11 f)
    rw [show n - (b + 1) = d by omega] at k2
    have bo := ib_ok (show 3 * b + k < 24 by omega) (show 24 ≤ 2 ^ 31 by omega)
    have b8 := ib_ok (show b < 8 by omega) (show 8 ≤ 2 ^ 31 by omega)
    have x9 : pla ht b k ≤ 9 := pla_9 (R.2.1 b (by omega)).2.2.2.1
    have t1 := (hD.1 b (by omega) (by omega) k k1).1
    rw [g_X4_choose_11, h.1, if_neg (nI_ge (by omega) (by omega)), k3]
    unfold g_X4_choose_61
    rw [show nI b * (3 : Int32) = nI (b * 3) from pk_mul b 3, nI_add, show b * 3 + k = 3 * b + k by omega, if_pos bo, if_pos b8, nI_clamp (by omega), nI_clamp (by omega), t1, nm_eq, if_pos b8, up2_at]
    have hM4 : CLo (up2 M 75 b (nI (pla ht b k))) n kd ld bw ht dr hd tr := h.cong (fun k j _ r => up2_of (by unfold relLo at r; omega))
    rw [c_edge hM4 R (by omega) x9, br_s, mn_n (by omega) (by omega), nm_eq, show nI b + (1 : Int32) = nI (b + 1) from nI_1 b]
    obtain ⟨M', e1, e2, e3⟩ := ih (b + 1) (min bd (pla ht b k - dr b)) f (up2 M 75 b (nI (pla ht b k))) hM4 (hD.cong (fun x j _ _ => up2_of (by omega))) (by omega) (by omega) (by omega)
    refine ⟨M', e1, fun j g1 g2 => ?_, fun x j r => by rw [e3 x j (by omega), up2_of (by omega)]⟩
    rw [chH_s]
    by_cases e : j = b
    · subst e
      rw [if_pos rfl, e3 _ _ (by omega), up2_at, k2]
    · rw [if_neg e, ← k2]
      exact e2 j (by omega) g2
/-- what the class finds for a picture -/
theorem c_pic {M : MM} (h : CLo M n kd ld bw ht dr hd tr) (R : Rng n kd ld bw ht dr hd tr) {s : Nat} (hs : s < 256) : ∃ M' : MM, f_X4_find M (nI s) = some (b2i (decide (Lf ht dr (pl kd ld bw) hd (fun i => s.testBit i) n 0 tr < 1000000)), M') ∧ (Lf ht dr (pl kd ld bw) hd (fun i => s.testBit i) n 0 tr < 1000000 → M' 71 4 = nI (Lf ht dr (pl kd ld bw) hd (fun i => s.testBit i) n 0 tr / 1000) ∧ M' 71 5 = nI (Lf ht dr (pl kd ld bw) hd (fun i => s.testBit i) n 0 tr % 1000) ∧ ∀ j, j < n → M' 75 j = nI (chH ht dr (pl kd ld bw) hd (fun i => s.testBit i) n 0 tr j)) ∧ ∀ x j, ¬ (71 ≤ x ∧ x ≤ 75) → M' x j = M x j := by
  have t9 := R.2.2.2
  obtain ⟨M1, a1, a2, a3⟩ := c_pf h R hs
  have h1 : CLo M1 n kd ld bw ht dr hd tr := h.cong (fun k j _ r => a3 k j (by unfold relLo at r; omega))
  have eL : M1 74 tr = nI (Lf ht dr (pl kd ld bw) hd (fun i => s.testBit i) n 0 tr) := by
    have := a2.2 0 (by omega) (by omega) tr (by omega)
    rw [show 10 * 0 + tr = tr by omega, Nat.sub_zero] at this
    exact this
  have ll := Lf_le (own := ht) (dr := dr) (P := pl kd ld bw) (hd := hd) (w := fun i => s.testBit i) n 0 tr
  generalize hLL : Lf ht dr (pl kd ld bw) hd (fun i => s.testBit i) n 0 tr = LL at eL ll ⊢
  rw [a1]
  unfold KP
  rw [h1.2.2.2.2.2.2.2, if_pos (ib_ok (by omega) (by omega)), nI_clamp (by omega), eL, nm_eq]
  by_cases q : LL < 1000000
  · rw [if_pos (show nI LL < (1000000 : Int32) from nI_lt (b := 1000000) q (by omega)), nm_eq, nm_eq, decide_eq_true q]
    have ed : nI LL / (1000 : Int32) = nI (LL / 1000) := pk_div (d := 1000) (by omega) (by omega) (by omega)
    have em : rm32 (nI LL) (1000 : Int32) = nI (LL % 1000) := pk_rem (d := 1000) (by omega) (by omega) (by omega)
    rw [ed, em]
    generalize eM : up2 (up2 M1 71 4 (nI (LL / 1000))) 71 5 (nI (LL % 1000)) = M5
    have u : ∀ x j, x ≠ 71 → M5 x j = M1 x j := fun x j r => by rw [← eM, up2_of (by omega), up2_of (by omega)]
    have h5 : CLo M5 n kd ld bw ht dr hd tr := h1.cong (fun k j _ r => u k j (by unfold relLo at r; omega))
    obtain ⟨M', e1, e2, e3⟩ := c_chL R hs n 0 tr FU M5 h5 (a2.cong (fun x j _ _ => u x j (by omega))) (by omega) (by have := R.1; have := FU_eq; omega) t9
    have e1' : f_X4_choose M5 (nI s) = some M' := by
      unfold f_X4_choose
      rw [h5.2.2.2.2.2.2.2, nm_eq]
      exact e1
    rw [e1', br_s]
    refine ⟨M', rfl, fun _ => ⟨?_, ?_, fun j hj => e2 j (by omega) hj⟩, fun x j r => by rw [e3 x j (by omega), u x j (by omega), a3 x j (by omega)]⟩
    · rw [e3 _ _ (by omega), ← eM, up2_of (by omega), up2_at]
    · rw [e3 _ _ (by omega), ← eM, up2_at]
  · rw [if_neg (show ¬ nI LL < (1000000 : Int32) from nI_nlt (b := 1000000) (by omega) (by omega)), decide_eq_false q]
    exact ⟨M1, rfl, fun z => absurd z q, fun x j r => a3 x j (by omega)⟩
end PCM
