-- pictures: the reference's rows
section PRM
variable {n : Nat} {kd ld bw ht dr : Nat → Nat} {hd tr : Nat}
theorem p3_d : ∀ n, n < 9 → 3 ^ n ≤ 6561 := by decide
theorem plc_d : ∀ x, x < 10 → ∀ k, k < 3 → (if nI x = 0 then (if nI k = 0 then some (0 : Int32) else if nI k = (1 : Int32) then some (-9 : Int32) else some (9 : Int32)) else if nI x = (9 : Int32) then (if nI k = 0 then some (0 : Int32) else if nI k = (1 : Int32) then some (-9 : Int32) else some (9 : Int32)) else (if nI k = 0 then some (0 : Int32) else if nI k = (1 : Int32) then some (nI x) else some (9 : Int32))) = some (if k = 1 ∧ (x = 0 ∨ x = 9) then (-9 : Int32) else nI (if k = 0 then 0 else if k = 1 then x else 9)) := by decide +kernel
theorem m_place {M : MM} {i k : Nat} (hi : i < 8) (hk : k < 3) (h : M 90 i = nI (ht i)) (h9 : ht i ≤ 9) : f_X11_placeBy M (nI i) (nI k) = some (if badD ht i k then (-9 : Int32) else nI (pla ht i k)) := by
  have bo := ib_ok hi (show 8 ≤ 2 ^ 31 by omega)
  unfold f_X11_placeBy g_X11_placeBy_31
  simp only [if_pos bo, nI_clamp (show i < 2 ^ 31 by omega), h]
  exact plc_d (ht i) (by omega) k hk
theorem m_gbL (R : Rng n kd ld bw ht dr hd tr) {r : Nat} (hr : r < 3 ^ n) : ∀ (i fuel : Nat) (M : MM), MLo M n kd ld bw ht dr hd tr → i ≤ n → i < fuel → gOk ht (pl kd ld bw) hd (n - i) i (r % 3 ^ (n - i)) → M 83 31 = nI (gMa ht (n - i) i (r % 3 ^ (n - i))) → M 83 32 = nI (gEf ht (pl kd ld bw) (n - i) i (r % 3 ^ (n - i))) → (∀ j, i ≤ j → j < n → M 93 j = nI (hRw ht (n - i) i (r % 3 ^ (n - i)) j)) → ∃ (M' : MM) (bb : Bool), g_X11_goalsBy_19 fuel M (nI (r / 3 ^ (n - i))) (nI i - (1 : Int32)) = some (b2i bb, M') ∧ (bb = true ↔ gOk ht (pl kd ld bw) hd n 0 r) ∧ (bb = true → M' 83 31 = nI (gMa ht n 0 r) ∧ M' 83 32 = nI (gEf ht (pl kd ld bw) n 0 r) ∧ ∀ j, j < n → M' 93 j = nI (hRw ht n 0 r j)) ∧ ∀ x j, x ≠ 93 → ¬ (x = 83 ∧ (j = 31 ∨ j = 32)) → M' x j = M x j := by
  have n8 := R.1
  have hr3 := p3_d n (by omega)
  intro i
  induction i with
  | zero =>
    intro fuel M h h1 h2 g1 g2 g3 g4
    obtain ⟨f, rfl⟩ : ∃ f, fuel = f + 1 := ⟨fuel - 1, by omega⟩
    rw [Nat.sub_zero, Nat.mod_eq_of_lt hr] at g1 g2 g3 g4
    rw [g_X11_goalsBy_19, if_pos (by decide)]
    exact ⟨M, true, rfl, ⟨fun _ => g1, fun _ => rfl⟩, fun _ => ⟨g2, g3, fun j hj => g4 j (by omega) hj⟩, fun _ _ _ _ => rfl⟩
  | succ i ih =>
    intro fuel M h h1 h2 g1 g2 g3 g4
    obtain ⟨f, rfl⟩ : ∃ f, fuel = f + 1 := ⟨fuel - 1, by omega⟩
    obtain ⟨d, hd1⟩ : ∃ d, d = n - (i + 1) := ⟨_, rfl⟩
    have hd2 : n - i = d + 1 := by omega
    rw [← hd1] at g1 g2 g3 g4 ⊢
    rw [hd2] at ih
    have hi : i < 8 := by omega
    have bo := ib_ok hi (show 8 ≤ 2 ^ 31 by omega)
    have h9 := (R.2.1 i hi).2.2.2.1
    have rd : r / 3 ^ d < 2 ^ 31 := by have := Nat.div_le_self r (3 ^ d); omega
    have er : rm32 (nI (r / 3 ^ d)) (3 : Int32) = nI (r / 3 ^ d % 3) := pk_rem (d := 3) rd (by omega) (by omega)
    have ed : nI (r / 3 ^ d) / (3 : Int32) = nI (r / 3 ^ d / 3) := pk_div (d := 3) rd (by omega) (by omega)
    have k3 : r / 3 ^ d % 3 < 3 := Nat.mod_lt _ (by omega)
    have ePl := m_place (M := M) (ht := ht) hi k3 (h.2.2.2.2.2.1 i hi) h9
    have gs := gOk_s (own := ht) (P := pl kd ld bw) (hd := hd) d i (r % 3 ^ (d + 1))
    have ms := gMa_s (own := ht) d i (r % 3 ^ (d + 1))
    have es := gEf_s (own := ht) (P := pl kd ld bw) d i (r % 3 ^ (d + 1))
    rw [m3_div, m3_mod] at gs ms es
    have suf : gOk ht (pl kd ld bw) hd n 0 r → gOk ht (pl kd ld bw) hd (d + 1) i (r % 3 ^ (d + 1)) := fun z => by
      have := gOk_suf hr z i (by omega)
      rw [hd2] at this
      exact this
    rw [g_X11_goalsBy_19, dm1, if_neg (nI_pos (by omega)), er, ePl, br_s, if_pos bo, nI_clamp (by omega), nm_eq, nm_eq, ed, m3_dd, if_pos bo, if_pos bo]
    by_cases hb : badD ht i (r / 3 ^ d % 3)
    · rw [if_pos hb]
      have e61 : ∀ s0 : Int32, g_X11_goalsBy_61 (g_X11_goalsBy_19 f) (up2 M 93 i (-9 : Int32)) (nI (r / 3 ^ (d + 1))) (nI i) s0 = some ((0 : Int32), up2 M 93 i (-9 : Int32)) := fun s0 => by
        unfold g_X11_goalsBy_61
        rw [if_pos bo, nI_clamp (by omega), up2_at, if_pos rfl]
      rw [e61, e61, ite_self]
      refine ⟨_, false, rfl, ⟨fun z => (by cases z), fun z => ?_⟩, fun z => (by cases z), fun x j r1 _ => up2_of (by omega)⟩
      have := suf z
      rw [gs] at this
      exact absurd hb this.1.1
    · rw [if_neg hb]
      have x9 : pla ht i (r / 3 ^ d % 3) ≤ 9 := pla_9 h9
      generalize hx : pla ht i (r / 3 ^ d % 3) = x at x9 gs ms es ⊢
      generalize eM : up2 M 93 i (nI x) = M6
      have u : ∀ y j, ¬ (y = 93 ∧ j = i) → M6 y j = M y j := fun y j q => by rw [← eM, up2_of q]
      have u0 : M6 93 i = nI x := by rw [← eM, up2_at]
      have h6 : MLo M6 n kd ld bw ht dr hd tr := h.cong (fun k j _ q => u k j (by unfold relLo at q; omega))
      have hh : M6 90 i = nI (ht i) := h6.2.2.2.2.2.1 i hi
      have nx9 : ¬ nI x = (-9 : Int32) := n9_d x (by omega)
      have ep : ∀ Ma : MM, (∀ y j, ¬ (y = 83 ∧ j = 31) → Ma y j = M6 y j) → f_X11_pullOf Ma (nI i) = some (nI (pl kd ld bw i)) := fun Ma q => m_pull (h6.cong (fun k j _ z => q k j (by unfold relLo at z; omega))) R hi
      have go : ∀ a b : Nat, gOk ht (pl kd ld bw) hd (d + 1) i (r % 3 ^ (d + 1)) → a = gMa ht (d + 1) i (r % 3 ^ (d + 1)) → b = gEf ht (pl kd ld bw) (d + 1) i (r % 3 ^ (d + 1)) → ∃ (M' : MM) (bb : Bool), g_X11_goalsBy_19 f (up2 (up2 M6 83 31 (nI a)) 83 32 (nI b)) (nI (r / 3 ^ (d + 1))) (nI i - (1 : Int32)) = some (b2i bb, M') ∧ (bb = true ↔ gOk ht (pl kd ld bw) hd n 0 r) ∧ (bb = true → M' 83 31 = nI (gMa ht n 0 r) ∧ M' 83 32 = nI (gEf ht (pl kd ld bw) n 0 r) ∧ ∀ j, j < n → M' 93 j = nI (hRw ht n 0 r j)) ∧ ∀ x j, x ≠ 93 → ¬ (x = 83 ∧ (j = 31 ∨ j = 32)) → M' x j = M x j := by
        intro a b q1 q2 q3
        obtain ⟨M', bb, e1, e2, e3, e4⟩ := ih f (up2 (up2 M6 83 31 (nI a)) 83 32 (nI b)) (h6.cong (fun k j _ z => by unfold relLo at z; rw [up2_of (by omega), up2_of (by omega)])) (by omega) (by omega) q1 (by rw [up2_of (by omega), up2_at, q2]) (by rw [up2_at, q3]) (fun j j1 j2 => by
          rw [up2_of (by omega), up2_of (by omega), hRw_s, m3_div, m3_mod, hx]
          by_cases e : j = i
          · rw [if_pos e, e, u0]
          · rw [if_neg e, u _ _ (by omega)]
            exact g4 j (by omega) j2)
        exact ⟨M', bb, e1, e2, e3, fun y j r1 r2 => by rw [e4 y j r1 r2, up2_of (by omega), up2_of (by omega), u y j (by omega)]⟩
      have s31 : M6 83 31 = nI (gMa ht d (i + 1) (r % 3 ^ d)) := by rw [u _ _ (by omega)]; exact g2
      have s32 : M6 83 32 = nI (gEf ht (pl kd ld bw) d (i + 1) (r % 3 ^ d)) := by rw [u _ _ (by omega)]; exact g3
      rw [u0, hh]
      by_cases e : x = ht i
      · rw [if_pos (show nI x = nI (ht i) by rw [e])]
        rw [if_pos e] at ms es
        unfold g_X11_goalsBy_61 g_X11_goalsBy_93 g_X11_goalsBy_108
        rw [if_pos bo, nI_clamp (by omega), u0, if_neg nx9, if_pos rfl, if_pos rfl, nm_eq, if_pos rfl, nm_eq, s31, up2_of (show ¬ (83 = 83 ∧ 32 = 31) by omega), s32, dm2, show (nI (gMa ht d (i + 1) (r % 3 ^ d)) + (0 : Int32)) = nI (gMa ht d (i + 1) (r % 3 ^ d) + 0) from nI_add _ 0, show (nI (gEf ht (pl kd ld bw) d (i + 1) (r % 3 ^ d)) + (0 : Int32)) = nI (gEf ht (pl kd ld bw) d (i + 1) (r % 3 ^ d) + 0) from nI_add _ 0]
        exact go _ _ (by rw [gs]; exact ⟨⟨hb, Or.inl e⟩, g1⟩) (by rw [ms]; omega) (by rw [es]; omega)
      · rw [if_neg (show ¬ nI x = nI (ht i) from fun z => e (nI_inj (by omega) (by omega) z))]
        rw [if_neg e] at ms es
        unfold g_X11_goalsBy_61
        rw [if_pos bo, nI_clamp (by omega), u0, if_neg nx9, if_neg (show ¬ (1 : Int32) = 0 by decide), ep M6 (fun _ _ _ => rfl), br_s, h6.2.2.2.2.2.2.1]
        by_cases hp : pl kd ld bw i ≤ hd
        · rw [if_pos (nI_le hp (by have := R.2.2.1; omega))]
          unfold g_X11_goalsBy_93 g_X11_goalsBy_108
          rw [if_neg (show ¬ (1 : Int32) = 0 by decide), nm_eq, if_neg (show ¬ (1 : Int32) = 0 by decide), s31, show (nI (gMa ht d (i + 1) (r % 3 ^ d)) + (1 : Int32)) = nI (gMa ht d (i + 1) (r % 3 ^ d) + 1) from nI_add _ 1, ep (up2 M6 83 31 (nI (gMa ht d (i + 1) (r % 3 ^ d) + 1))) (fun y j q => up2_of q), br_s, if_pos bo, if_pos bo, nI_clamp (by omega), up2_of (show ¬ (93 = 83 ∧ i = 31) by omega), up2_of (show ¬ (90 = 83 ∧ i = 31) by omega), u0, hh, apart_n _ x9 h9, br_s, nm_eq, up2_of (show ¬ (83 = 83 ∧ 32 = 31) by omega), s32, dm2, pk_mul, nI_add]
          exact go _ _ (by rw [gs]; exact ⟨⟨hb, Or.inr hp⟩, g1⟩) (by rw [ms]; omega) (by rw [es]; omega)
        · rw [if_neg (nI_ge (by omega) (by have := pl_le R hi; omega))]
          refine ⟨_, false, rfl, ⟨fun z => (by cases z), fun z => ?_⟩, fun z => (by cases z), fun y j r1 _ => u y j (by omega)⟩
          have q := suf z
          rw [gs] at q
          rcases q.1.2 with q | q
          · exact absurd q e
          · exact absurd q hp
theorem m_gb {M : MM} (h : MLo M n kd ld bw ht dr hd tr) (R : Rng n kd ld bw ht dr hd tr) {r : Nat} (hr : r < 3 ^ n) : ∃ (M' : MM) (bb : Bool), f_X11_goalsBy M (nI r) = some (b2i bb, M') ∧ (bb = true ↔ gOk ht (pl kd ld bw) hd n 0 r) ∧ (bb = true → M' 83 31 = nI (gMa ht n 0 r) ∧ M' 83 32 = nI (gEf ht (pl kd ld bw) n 0 r) ∧ ∀ j, j < n → M' 93 j = nI (hRw ht n 0 r j)) ∧ ∀ x j, x ≠ 93 → ¬ (x = 83 ∧ (j = 31 ∨ j = 32)) → M' x j = M x j := by
  have n8 := R.1
  unfold f_X11_goalsBy
  rw [nm_eq, nm_eq, nm_eq, up2_of (show ¬ (83 = 83 ∧ 5 = 32) by omega), up2_of (show ¬ (83 = 83 ∧ 5 = 31) by omega), h.1]
  have e0 : n - n = 0 := Nat.sub_self n
  obtain ⟨M', bb, e1, e2, e3, e4⟩ := m_gbL R hr n FU (up2 (up2 M 83 31 0) 83 32 0) (h.cong (fun k j _ z => by unfold relLo at z; rw [up2_of (by omega), up2_of (by omega)])) (Nat.le_refl n) (by have := FU_eq; omega) (by rw [e0]; exact True.intro) (by rw [e0, up2_of (by omega)]; exact up2_at _ _ _ _) (by rw [e0]; exact up2_at _ _ _ _) (fun j j1 j2 => by omega)
  rw [e0, Nat.pow_zero, Nat.div_one] at e1
  exact ⟨M', bb, e1, e2, e3, fun x j r1 r2 => by rw [e4 x j r1 r2, up2_of (by omega), up2_of (by omega)]⟩
theorem m_isP {M : MM} (h : MLo M n kd ld bw ht dr hd tr) (R : Rng n kd ld bw ht dr hd tr) {s r : Nat} (hs : s < 2 ^ n) (hg : ∀ j, j < n → M 93 j = nI (hRw ht n 0 r j)) : ∃ (M' : MM) (bb : Bool), f_X11_isPicture M (nI s) = some (b2i bb, M') ∧ (bb = true ↔ gSe ht dr (fun i => s.testBit i) n 0 tr r) ∧ ∀ k j, k ≠ 99 → (k = 90 → j < 8) → M' k j = M k j := by
  have n8 := R.1
  have h9 : ∀ j, j < 8 → ht j ≤ 9 := fun j hj => (R.2.1 j hj).2.2.2.1
  obtain ⟨Mk, k0, k1, k2⟩ := m_keepH M
  have hMk : MLo Mk n kd ld bw ht dr hd tr := h.cong (fun k i g z => k2 k i (by unfold relLo at z; omega))
  obtain ⟨Mg, g0, g1, g2⟩ := m_goesN n8 hMk.1
  obtain ⟨g, hgd⟩ : ∃ g : Nat → Nat, ∀ j, g j = if j < n then hRw ht n 0 r j else ht j := ⟨fun j => if j < n then hRw ht n 0 r j else ht j, fun _ => rfl⟩
  have hMg : MLo Mg n kd ld bw g dr hd tr := by
    obtain ⟨a1, a2, a3, a4, a5, a6, a7, a8⟩ := hMk
    refine ⟨by rw [g2 _ _ (by omega)]; exact a1, fun j hj => by rw [g2 _ _ (by omega)]; exact a2 j hj, fun j hj => by rw [g2 _ _ (by omega)]; exact a3 j hj, fun j hj => by rw [g2 _ _ (by omega)]; exact a4 j hj, fun j hj => by rw [g2 _ _ (by omega)]; exact a5 j hj, fun j hj => ?_, by rw [g2 _ _ (by omega)]; exact a7, by rw [g2 _ _ (by omega)]; exact a8⟩
    rw [hgd]
    by_cases e : j < n
    · rw [if_pos e, g1 j e, k2 _ _ (by omega)]
      exact hg j e
    · rw [if_neg e, g2 _ _ (by omega)]
      exact a6 j hj
  have hRg : Rng n kd ld bw g dr hd tr := R.hts (fun j hj => by
    rw [hgd]
    split
    · exact hRw_9 h9 n 0 r j (by omega)
    · exact h9 j hj) R.2.2.1
  obtain ⟨Mp, p0, p1, p2⟩ := m_putH Mg
  have key : snS (fun j => g j - dr j) n 0 0 tr = nI s ↔ gSe ht dr (fun i => s.testBit i) n 0 tr r := sn_g n8 hs (fun j hj => by
    show g j - dr j = _
    rw [hgd, if_pos hj])
  have fr : ∀ k j, k ≠ 99 → (k = 90 → j < 8) → Mp k j = M k j := fun k j r1 r2 => by
    by_cases e : k = 90
    · subst e
      rw [p1 j (r2 rfl), g2 _ _ (by omega), k1 j (r2 rfl)]
    · rw [p2 k j e, g2 k j (by omega), k2 k j r1]
  unfold f_X11_isPicture
  rw [k0, br_s, g0, br_s, m_seenNow hMg hRg, br_s]
  by_cases q : snS (fun j => g j - dr j) n 0 0 tr = nI s
  · rw [if_pos q, p0, br_s]
    exact ⟨Mp, true, rfl, ⟨fun _ => key.mp q, fun _ => rfl⟩, fr⟩
  · rw [if_neg q, p0, br_s]
    exact ⟨Mp, false, rfl, ⟨fun z => (by cases z), fun z => absurd (key.mpr z) q⟩, fr⟩
theorem m_cpicL (n8 : n ≤ 8) {v1 v2 v3 v4 : Int32} (rec : MM → Int32 → Int32 → Int32 → Int32 → Option (Int32 × MM)) : ∀ (d i fuel : Nat) (M : MM), M 83 5 = nI n → i + d = n → d < fuel → ∃ M' : MM, g_X11_findPicture_85 rec fuel M v1 v2 v3 v4 (nI i) = rec M' v1 v2 v3 (v4 + (1 : Int32)) ∧ (∀ j, i ≤ j → j < n → M' 100 j = M 93 j) ∧ ∀ x j, ¬ (x = 100 ∧ i ≤ j) → M' x j = M x j := by
  intro d
  induction d with
  | zero =>
    intro i fuel M h1 h2 h3
    obtain ⟨f, rfl⟩ : ∃ f, fuel = f + 1 := ⟨fuel - 1, by omega⟩
    obtain rfl : i = n := by omega
    rw [g_X11_findPicture_85, h1, if_pos (nI_le (Nat.le_refl i) (by omega))]
    exact ⟨M, rfl, fun j g1 g2 => by omega, fun _ _ _ => rfl⟩
  | succ d ih =>
    intro i fuel M h1 h2 h3
    obtain ⟨f, rfl⟩ : ∃ f, fuel = f + 1 := ⟨fuel - 1, by omega⟩
    have bo := ib_ok (show i < 8 by omega) (show 8 ≤ 2 ^ 31 by omega)
    rw [g_X11_findPicture_85, h1, if_neg (nI_ge (by omega) (by omega)), if_pos bo, if_pos bo, nI_clamp (by omega), nm_eq, show nI i + (1 : Int32) = nI (i + 1) from nI_1 i]
    obtain ⟨M', e1, e2, e3⟩ := ih (i + 1) f (up2 M 100 i (M 93 i)) (by rw [up2_of (by omega)]; exact h1) (by omega) (by omega)
    refine ⟨M', e1, fun j g1 g2 => ?_, fun x j r => by rw [e3 x j (by omega), up2_of (by omega)]⟩
    by_cases e : j = i
    · rw [e, e3 _ _ (by omega), up2_at]
    · rw [e2 j (by omega) g2, up2_of (by omega)]
/-- how far the reference's search is -/
def QP (M : MM) (ht : Nat → Nat) (n L r0 i v : Nat) : Prop := v ≤ 1000000 ∧ L ≤ v ∧ (L < 1000000 → (i ≤ r0 → L < v) ∧ (r0 < i → v = L ∧ ∀ j, j < n → M 100 j = nI (hRw ht n 0 r0 j)))
theorem m_fpL (R : Rng n kd ld bw ht dr hd tr) {s L r0 : Nat} (hs : s < 2 ^ n) (hC : ∀ r, r < 3 ^ n → L ≤ CRf ht dr (pl kd ld bw) hd (fun i => s.testBit i) n 0 tr r) (h0 : L < 1000000 → r0 < 3 ^ n ∧ CRf ht dr (pl kd ld bw) hd (fun i => s.testBit i) n 0 tr r0 = L ∧ ∀ r, r < r0 → L < CRf ht dr (pl kd ld bw) hd (fun i => s.testBit i) n 0 tr r) : ∀ (d i fuel v : Nat) (M : MM), MLo M n kd ld bw ht dr hd tr → i + d = 3 ^ n → d < fuel → QP M ht n L r0 i v → ∃ (M' : MM) (v' : Nat), g_X11_findPicture_28 fuel M (nI s) (nI (3 ^ n)) (nI v) (nI i) = some (nI v', M') ∧ QP M' ht n L r0 (3 ^ n) v' ∧ ∀ k j, k ≠ 93 → k ≠ 99 → k ≠ 100 → ¬ (k = 83 ∧ (j = 31 ∨ j = 32)) → (k = 90 → j < 8) → M' k j = M k j := by
  have n8 := R.1
  have hr3 := p3_d n (by omega)
  have h9 : ∀ j, j < 8 → ht j ≤ 9 := fun j hj => (R.2.1 j hj).2.2.2.1
  intro d
  induction d with
  | zero =>
    intro i fuel v M h h1 h2 hQ
    obtain ⟨f, rfl⟩ : ∃ f, fuel = f + 1 := ⟨fuel - 1, by omega⟩
    obtain rfl : i = 3 ^ n := by omega
    rw [g_X11_findPicture_28, if_pos (nI_le (Nat.le_refl _) (by omega))]
    exact ⟨M, v, rfl, hQ, fun _ _ _ _ _ _ _ => rfl⟩
  | succ d ih =>
    intro i fuel v M h h1 h2 hQ
    obtain ⟨f, rfl⟩ : ∃ f, fuel = f + 1 := ⟨fuel - 1, by omega⟩
    have hi3 : i < 3 ^ n := by omega
    obtain ⟨c1, c2, c3, c4⟩ := CRf_g (own := ht) (dr := dr) (P := pl kd ld bw) (hd := hd) (w := fun i => s.testBit i) (fun j hj => pl_le R hj) h9 n 0 tr i (by omega)
    have hLi := hC i hi3
    have hv1 := hQ.1
    have hv2 := hQ.2.1
    -- nothing better
    have skip : ¬ CRf ht dr (pl kd ld bw) hd (fun i => s.testBit i) n 0 tr i < v → ∀ Ma : MM, (∀ k j, k ≠ 93 → k ≠ 99 → ¬ (k = 83 ∧ (j = 31 ∨ j = 32)) → (k = 90 → j < 8) → Ma k j = M k j) → ∃ (M' : MM) (v' : Nat), g_X11_findPicture_28 f Ma (nI s) (nI (3 ^ n)) (nI v) (nI (i + 1)) = some (nI v', M') ∧ QP M' ht n L r0 (3 ^ n) v' ∧ ∀ k j, k ≠ 93 → k ≠ 99 → k ≠ 100 → ¬ (k = 83 ∧ (j = 31 ∨ j = 32)) → (k = 90 → j < 8) → M' k j = M k j := by
      intro hn Ma ha
      obtain ⟨M', v', e1, e2, e3⟩ := ih (i + 1) f v Ma (h.cong (fun k j _ z => by unfold relLo at z; exact ha k j (by omega) (by omega) (by omega) (by omega))) (by omega) (by omega) ⟨hQ.1, hQ.2.1, fun hl => by
        obtain ⟨q1, q2⟩ := hQ.2.2 hl
        obtain ⟨z1, z2, z3⟩ := h0 hl
        refine ⟨fun q => q1 (by omega), fun q => ?_⟩
        by_cases e : i = r0
        · have := q1 (by omega)
          rw [← e] at z2
          omega
        · obtain ⟨y1, y2⟩ := q2 (by omega)
          exact ⟨y1, fun j hj => by rw [ha _ _ (by omega) (by omega) (by omega) (by omega)]; exact y2 j hj⟩⟩
      exact ⟨M', v', e1, e2, fun k j r1 r2 r3 r4 r5 => by rw [e3 k j r1 r2 r3 r4 r5, ha k j r1 r2 r4 r5]⟩
    obtain ⟨M3, bb, g0, g1, g2, g3⟩ := m_gb h R hi3
    rw [g_X11_findPicture_28, if_neg (nI_ge (by omega) (by omega)), g0, bi_s, show nI i + (1 : Int32) = nI (i + 1) from nI_1 i]
    cases bb with
    | false =>
      rw [if_pos (show b2i false = 0 from rfl)]
      refine skip ?_ M3 (fun k j r1 _ r3 _ => g3 k j r1 r3)
      rw [c4 (fun z => by have := g1.mpr z.1; cases this)]
      have := hQ.1
      omega
    | true =>
      rw [if_neg (show ¬ b2i true = 0 by decide)]
      have hok := g1.mp rfl
      obtain ⟨t1, t2, t3⟩ := g2 rfl
      have ec : ∀ Ma : MM, Ma 83 31 = M3 83 31 → Ma 83 32 = M3 83 32 → (1000 : Int32) * (Ma 83 31) + Ma 83 32 = nI (1000 * gMa ht n 0 i + gEf ht (pl kd ld bw) n 0 i) := fun Ma a1 a2 => by
        rw [a1, a2, t1, t2, show (1000 : Int32) * nI (gMa ht n 0 i) = nI (1000 * gMa ht n 0 i) from pk_mul 1000 _, nI_add]
      rw [ec M3 rfl rfl]
      by_cases hv : v ≤ 1000 * gMa ht n 0 i + gEf ht (pl kd ld bw) n 0 i
      · rw [if_pos (nI_le hv (by omega))]
        refine skip ?_ M3 (fun k j r1 _ r3 _ => g3 k j r1 r3)
        by_cases hse : gSe ht dr (fun i => s.testBit i) n 0 tr i
        · rw [c3 ⟨hok, hse⟩]
          omega
        · rw [c4 (fun z => hse z.2)]
          have := hQ.1
          omega
      · rw [if_neg (nI_ge (by omega) (by have := hQ.1; omega))]
        have h3 : MLo M3 n kd ld bw ht dr hd tr := h.cong (fun k j _ z => g3 k j (by unfold relLo at z; omega) (by unfold relLo at z; omega))
        obtain ⟨M6, b6, p0, p1, p2⟩ := m_isP h3 R hs t3
        have w6 : ∀ k j, k ≠ 93 → k ≠ 99 → ¬ (k = 83 ∧ (j = 31 ∨ j = 32)) → (k = 90 → j < 8) → M6 k j = M k j := fun k j r1 r2 r3 r4 => by rw [p2 k j r2 r4, g3 k j r1 r3]
        rw [p0, bi_s]
        cases b6 with
        | false =>
          rw [if_pos (show b2i false = 0 from rfl)]
          refine skip ?_ M6 w6
          rw [c4 (fun z => by have := p1.mpr z.2; cases this)]
          have := hQ.1
          omega
        | true =>
          rw [if_neg (show ¬ b2i true = 0 by decide)]
          have hse := p1.mp rfl
          have hcv := c3 ⟨hok, hse⟩
          rw [nm_eq, ec M6 (p2 _ _ (by omega) (by omega)) (p2 _ _ (by omega) (by omega))]
          obtain ⟨M7, q0, q1, q2⟩ := m_cpicL (n := n) n8 (v1 := nI s) (v2 := nI (3 ^ n)) (v3 := nI (1000 * gMa ht n 0 i + gEf ht (pl kd ld bw) n 0 i)) (v4 := nI i) (g_X11_findPicture_28 f) n 0 FU M6 (by rw [w6 _ _ (by omega) (by omega) (by omega) (by omega)]; exact h.1) (by omega) (by have := FU_eq; omega)
          have q0' : g_X11_findPicture_85 (g_X11_findPicture_28 f) FU M6 (nI s) (nI (3 ^ n)) (nI (1000 * gMa ht n 0 i + gEf ht (pl kd ld bw) n 0 i)) (nI i) (0 : Int32) = _ := q0
          rw [q0', show nI i + (1 : Int32) = nI (i + 1) from nI_1 i]
          have w7 : ∀ k j, k ≠ 93 → k ≠ 99 → k ≠ 100 → ¬ (k = 83 ∧ (j = 31 ∨ j = 32)) → (k = 90 → j < 8) → M7 k j = M k j := fun k j r1 r2 r3 r4 r5 => by rw [q2 k j (by omega), w6 k j r1 r2 r4 r5]
          obtain ⟨M', v', e1, e2, e3⟩ := ih (i + 1) f (1000 * gMa ht n 0 i + gEf ht (pl kd ld bw) n 0 i) M7 (h.cong (fun k j _ z => by unfold relLo at z; exact w7 k j (by omega) (by omega) (by omega) (by omega) (by omega))) (by omega) (by omega) ⟨by omega, by omega, fun hl => by
            obtain ⟨y1, y2⟩ := hQ.2.2 hl
            obtain ⟨z1, z2, z3⟩ := h0 hl
            refine ⟨fun q => ?_, fun q => ?_⟩
            · have := z3 i (by omega)
              omega
            · by_cases e : i = r0
              · rw [← e] at z2 ⊢
                refine ⟨by omega, fun j hj => ?_⟩
                rw [q1 j (by omega) hj, p2 _ _ (by omega) (by omega)]
                exact t3 j hj
              · exfalso
                have := (y2 (by omega)).1
                omega⟩
          exact ⟨M', v', e1, e2, fun k j r1 r2 r3 r4 r5 => by rw [e3 k j r1 r2 r3 r4 r5, w7 k j r1 r2 r3 r4 r5]⟩
theorem m_fp4 (n8 : n ≤ 8) {s : Int32} {M : MM} (h : M 83 5 = nI n) : ∀ (d i fuel : Nat), i + d = n → d < fuel → g_X11_findPicture_4 fuel M s (nI (3 ^ i)) (nI i) = g_X11_findPicture_28 FU M s (nI (3 ^ n)) (1000000 : Int32) (0 : Int32) := by
  intro d
  induction d with
  | zero =>
    intro i fuel h1 h2
    obtain ⟨f, rfl⟩ : ∃ f, fuel = f + 1 := ⟨fuel - 1, by omega⟩
    obtain rfl : i = n := by omega
    rw [g_X11_findPicture_4, h, if_pos (nI_le (Nat.le_refl i) (by omega))]
  | succ d ih =>
    intro i fuel h1 h2
    obtain ⟨f, rfl⟩ : ∃ f, fuel = f + 1 := ⟨fuel - 1, by omega⟩
    rw [g_X11_findPicture_4, h, if_neg (nI_ge (by omega) (by omega)), nm_eq, show nI (3 ^ i) * (3 : Int32) = nI (3 ^ i * 3) from pk_mul _ 3, ← Nat.pow_succ, show nI i + (1 : Int32) = nI (i + 1) from nI_1 i]
    exact ih (i + 1) f (by omega) (by omega)
theorem m_fp {M : MM} (h : MLo M n kd ld bw ht dr hd tr) (R : Rng n kd ld bw ht dr hd tr) {s : Nat} (hs : s < 2 ^ n) : ∃ M' : MM, f_X11_findPicture M (nI s) = some (nI (Lf ht dr (pl kd ld bw) hd (fun i => s.testBit i) n 0 tr), M') ∧ (Lf ht dr (pl kd ld bw) hd (fun i => s.testBit i) n 0 tr < 1000000 → ∀ j, j < n → M' 100 j = nI (chH ht dr (pl kd ld bw) hd (fun i => s.testBit i) n 0 tr j)) ∧ ∀ k j, k ≠ 93 → k ≠ 99 → k ≠ 100 → ¬ (k = 83 ∧ (j = 31 ∨ j = 32)) → (k = 90 → j < 8) → M' k j = M k j := by
  have n8 := R.1
  have hr3 := p3_d n (by omega)
  have e4 : f_X11_findPicture M (nI s) = g_X11_findPicture_28 FU M (nI s) (nI (3 ^ n)) (nI 1000000) (nI 0) := m_fp4 n8 h.1 n 0 FU (by omega) (by have := FU_eq; omega)
  have hC : ∀ r, r < 3 ^ n → Lf ht dr (pl kd ld bw) hd (fun i => s.testBit i) n 0 tr ≤ CRf ht dr (pl kd ld bw) hd (fun i => s.testBit i) n 0 tr r := fun r hr => CRf_ge n 0 tr r hr
  have ll := Lf_le (own := ht) (dr := dr) (P := pl kd ld bw) (hd := hd) (w := fun i => s.testBit i) n 0 tr
  rw [e4]
  by_cases hl : Lf ht dr (pl kd ld bw) hd (fun i => s.testBit i) n 0 tr < 1000000
  · obtain ⟨r0, z1, z2, z3, z4⟩ := CRf_ex (own := ht) (dr := dr) (P := pl kd ld bw) (hd := hd) (w := fun i => s.testBit i) n 0 tr hl
    obtain ⟨M', v', e1, e2, e3⟩ := m_fpL R hs hC (r0 := r0) (fun _ => ⟨z1, z2, z3⟩) (3 ^ n) 0 FU 1000000 M h (by omega) (by have := FU_eq; omega) ⟨Nat.le_refl _, ll, fun _ => ⟨fun _ => hl, fun q => by omega⟩⟩
    obtain ⟨y1, y2⟩ := (e2.2.2 hl).2 z1
    rw [y1] at e1
    exact ⟨M', e1, fun _ j hj => by rw [y2 j hj, z4 j (by omega) (by omega)], e3⟩
  · obtain ⟨M', v', e1, e2, e3⟩ := m_fpL R hs hC (r0 := 0) (fun q => absurd q hl) (3 ^ n) 0 FU 1000000 M h (by omega) (by have := FU_eq; omega) ⟨Nat.le_refl _, ll, fun q => absurd q hl⟩
    have := e2.1
    have := e2.2.1
    rw [show v' = Lf ht dr (pl kd ld bw) hd (fun i => s.testBit i) n 0 tr by omega] at e1
    exact ⟨M', e1, fun q => absurd q hl, e3⟩
end PRM
