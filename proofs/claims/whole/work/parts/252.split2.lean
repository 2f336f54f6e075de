-- the fewest cues behind a set of moves
abbrev nxP (nx : Nat → Nat → Bool) : Nat → Nat → Prop := fun D s => nx D s = true
def fwP (nx : Nat → Nat → Bool) (all : Nat) (x : Int32) (D : Nat) : Prop := (x = -9 ∧ ∀ c, ¬ RR (nxP nx) all c D) ∨ ∃ c, c ≤ 5 ∧ x = nI c ∧ RR (nxP nx) all c D ∧ ∀ c', c' < c → ¬ RR (nxP nx) all c' D
def acP (nx : Nat → Nat → Bool) (all D s : Nat) (x : Int32) : Prop := (x = -9 ∧ ∀ t, t < s → nx D t = true → ∀ c, ¬ RR (nxP nx) all c (D ||| t)) ∨ ∃ c, c ≤ 5 ∧ x = nI (c + 1) ∧ (∃ t, t < s ∧ nx D t = true ∧ RR (nxP nx) all c (D ||| t)) ∧ ∀ t, t < s → nx D t = true → ∀ c', c' < c → ¬ RR (nxP nx) all c' (D ||| t)
theorem up_d : ∀ D, D < 32 → ∀ s, s < 32 → 1 ≤ s → s &&& D = 0 → D < D ||| s := by decide +kernel
section SPD
variable {m : Nat} {cb nx : Nat → Nat → Bool}
theorem c_fbL {M : MM} (hm : m ≤ 5) (hnx : ∀ D s, nx D s = true ↔ (1 ≤ s ∧ s ≤ 2 ^ m - 1 ∧ s &&& D = 0 ∧ cb D s = true)) {D : Nat} (hD : D < 32) (h77 : ∀ t, t < 32 → bt (M 77 D) t = nx D t) (h78 : ∀ s, nx D s = true → fwP nx (2 ^ m - 1) (M 78 (D ||| s)) (D ||| s)) : ∀ (d s fuel : Nat) (x : Int32), s + d = 2 ^ m → d < fuel → acP nx (2 ^ m - 1) D s x → ∃ r : Int32, g_X8_fewestBehind_6 M fuel (nI D) (nI (2 ^ m - 1)) x (nI s) = some r ∧ acP nx (2 ^ m - 1) D (2 ^ m) r := by
  obtain ⟨p32, p1⟩ := p5_d m (by omega)
  intro d
  induction d with
  | zero =>
    intro s fuel x h1 h2 h3
    obtain ⟨f, rfl⟩ : ∃ f, fuel = f + 1 := ⟨fuel - 1, by omega⟩
    obtain rfl : s = 2 ^ m := by omega
    rw [g_X8_fewestBehind_6, if_pos (nI_lt (by omega) (by omega))]
    exact ⟨x, rfl, h3⟩
  | succ d ih =>
    intro s fuel x h1 h2 h3
    obtain ⟨f, rfl⟩ : ∃ f, fuel = f + 1 := ⟨fuel - 1, by omega⟩
    obtain ⟨o1, o2, o3⟩ := bd_d D hD s (by omega)
    rw [g_X8_fewestBehind_6, if_neg (nI_nlt (by omega) (by omega)), if_pos (ib_ok hD (by omega)), nI_clamp (by omega), bt_us _ (show s < 32 by omega), h77 s (by omega), show nI s + (1 : Int32) = nI (s + 1) from nI_1 s, o2, if_pos (ib_ok o3 (by omega)), if_pos (ib_ok o3 (by omega)), nI_clamp (by omega)]
    have go : ∀ y : Int32, acP nx (2 ^ m - 1) D (s + 1) y → ∃ r : Int32, g_X8_fewestBehind_6 M f (nI D) (nI (2 ^ m - 1)) y (nI (s + 1)) = some r ∧ acP nx (2 ^ m - 1) D (2 ^ m) r := fun y hy => ih (s + 1) f y (by omega) (by omega) hy
    have keep : (∀ c, nx D s = true → ¬ RR (nxP nx) (2 ^ m - 1) c (D ||| s)) → acP nx (2 ^ m - 1) D (s + 1) x := by
      intro hno
      rcases h3 with ⟨g1, g2⟩ | ⟨c, g0, g1, ⟨t, g2, g3, g4⟩, g5⟩
      · refine Or.inl ⟨g1, fun t ht hn c => ?_⟩
        by_cases e : t = s
        · subst e; exact hno c hn
        · exact g2 t (by omega) hn c
      · refine Or.inr ⟨c, g0, g1, ⟨t, by omega, g3, g4⟩, fun t ht hn c' hc' => ?_⟩
        by_cases e : t = s
        · subst e; exact hno c' hn
        · exact g5 t (by omega) hn c' hc'
    cases q : nx D s with
    | false =>
      rw [if_neg (by decide)]
      exact go x (keep (fun c z => by rw [q] at z; cases z))
    | true =>
      rw [if_pos (by decide)]
      rcases h78 s q with ⟨f1, f2⟩ | ⟨c2, f0, f1, f2, f3⟩
      · rw [if_pos f1]
        exact go x (keep (fun c _ => f2 c))
      · rw [f1, if_neg (n9_d c2 (by omega)), show nI c2 + (1 : Int32) = nI (c2 + 1) from nI_1 c2, nm_eq, nm_eq]
        rcases h3 with ⟨g1, g2⟩ | ⟨c, g0, g1, ⟨t, g2, g3, g4⟩, g5⟩
        · rw [if_pos g1]
          refine go _ (Or.inr ⟨c2, f0, rfl, ⟨s, by omega, q, f2⟩, fun t ht hn c' hc' => ?_⟩)
          by_cases e : t = s
          · subst e; exact f3 c' hc'
          · exact g2 t (by omega) hn c'
        · rw [g1, if_neg (n9_d (c + 1) (by omega))]
          unfold mn32
          by_cases e : c2 < c
          · rw [if_pos (nI_lt (by omega) (by omega))]
            refine go _ (Or.inr ⟨c2, f0, rfl, ⟨s, by omega, q, f2⟩, fun t ht hn c' hc' => ?_⟩)
            by_cases e2 : t = s
            · subst e2; exact f3 c' hc'
            · exact g5 t (by omega) hn c' (by omega)
          · rw [if_neg (nI_nlt (by omega) (by omega))]
            refine go _ (Or.inr ⟨c, g0, rfl, ⟨t, by omega, g3, g4⟩, fun t ht hn c' hc' => ?_⟩)
            by_cases e2 : t = s
            · subst e2; exact f3 c' (by omega)
            · exact g5 t (by omega) hn c' hc'
theorem ac_fw (hm : m ≤ 5) (hnx : ∀ D s, nx D s = true ↔ (1 ≤ s ∧ s ≤ 2 ^ m - 1 ∧ s &&& D = 0 ∧ cb D s = true)) {D : Nat} (hD : D < 2 ^ m - 1) {x : Int32} (h : acP nx (2 ^ m - 1) D (2 ^ m) x) : fwP nx (2 ^ m - 1) x D := by
  obtain ⟨p32, p1⟩ := p5_d m (by omega)
  have h0 : ¬ RR (nxP nx) (2 ^ m - 1) 0 D := fun z => by
    have : D = 2 ^ m - 1 := z
    omega
  rcases h with ⟨g1, g2⟩ | ⟨c, g0, g1, ⟨t, g2, g3, g4⟩, g5⟩
  · refine Or.inl ⟨g1, fun c => ?_⟩
    cases c with
    | zero => exact h0
    | succ c =>
      rintro ⟨s, s1, s2⟩
      exact g2 s (by have := ((hnx D s).mp s1).2.1; omega) s1 c s2
  · have hr : RR (nxP nx) (2 ^ m - 1) (c + 1) D := ⟨t, g3, g4⟩
    have hle := RR_le hm (nx := nxP nx) (fun D s z => ⟨((hnx D s).mp z).1, ((hnx D s).mp z).2.1, ((hnx D s).mp z).2.2.1⟩) (c + 1) D (by omega) hr
    refine Or.inr ⟨c + 1, by omega, g1, hr, fun c' hc' => ?_⟩
    cases c' with
    | zero => exact h0
    | succ c' =>
      rintro ⟨s, s1, s2⟩
      exact g5 s (by have := ((hnx D s).mp s1).2.1; omega) s1 c' (by omega) s2
end SPD
section SPE
variable {n : Nat} {kd ld bw ht dr : Nat → Nat} {hd tr m : Nat} {mb mh : Nat → Nat} {cb nx : Nat → Nat → Bool}
theorem dm1 (i : Nat) : nI (i + 1) - (1 : Int32) = nI i := pk_sub (b := 1) (a := i + 1) (by omega)
theorem dm2 (i : Nat) : nI i + (-1 : Int32) = nI i - (1 : Int32) := by
  rw [Int32.sub_eq_add_neg]
/-- what find has told behind its first loop -/
def FWD (nx : Nat → Nat → Bool) (m : Nat) (M : MM) (i : Nat) : Prop := (∀ E, i ≤ E → E ≤ 2 ^ m - 1 → fwP nx (2 ^ m - 1) (M 78 E) E) ∧ ∀ E, i ≤ E → E < 2 ^ m - 1 → ∀ t, t < 32 → bt (M 77 E) t = nx E t
def KF (M : MM) : Option (Int32 × MM) := (nm (up2 M 76 6 (M 78 0)) fun M4 => (if (M4 76 6) = (-9 : Int32) then (some ((0 : Int32), M4)) else (bi (f_X8_chooseRow M4 (M4 65 2)) fun r5 M6 => (if r5 = 0 then (some ((0 : Int32), M6)) else (some ((1 : Int32), M6))))))
theorem c_findL (R : Rng n kd ld bw ht dr hd tr) (hm : m ≤ 5) (hi : injM m mb) (hcb : ∀ D s, cb D s = true ↔ CAN n (pl kd ld bw) dr (brS mb mh ht D m) (brS mb mh ht (D ||| s) m) hd) (hnx : ∀ D s, nx D s = true ↔ (1 ≤ s ∧ s ≤ 2 ^ m - 1 ∧ s &&& D = 0 ∧ cb D s = true)) : ∀ (i fuel : Nat) (M : MM), CLo M n kd ld bw ht dr hd tr → MV M m mb mh → i ≤ 2 ^ m - 1 → i < fuel → FWD nx m M i → ∃ M' : MM, g_X8_find_21 fuel M (nI (2 ^ m - 1)) (nI i - (1 : Int32)) = KF M' ∧ FWD nx m M' 0 ∧ ∀ k j, ¬ (77 ≤ k ∧ k ≤ 80) → M' k j = M k j := by
  obtain ⟨p32, p1⟩ := p5_d m (by omega)
  intro i
  induction i with
  | zero =>
    intro fuel M h h1 h2 h3 h4
    obtain ⟨f, rfl⟩ : ∃ f, fuel = f + 1 := ⟨fuel - 1, by omega⟩
    rw [g_X8_find_21, if_pos (by decide), if_pos (by decide)]
    exact ⟨M, rfl, h4, fun _ _ _ => rfl⟩
  | succ i ih =>
    intro fuel M h h1 h2 h3 h4
    obtain ⟨f, rfl⟩ : ∃ f, fuel = f + 1 := ⟨fuel - 1, by omega⟩
    have bo := ib_ok (show i < 32 by omega) (show 32 ≤ 2 ^ 31 by omega)
    rw [g_X8_find_21, dm1, if_neg (nI_pos (by omega))]
    obtain ⟨v, M9, a1, a2, a3⟩ := c_nb h R hm hi hcb hnx (D := i) (by omega) h1
    rw [a1, bi_s, if_pos bo, nI_clamp (by omega), nm_eq]
    generalize eM : up2 M9 77 i v = M11
    have u : ∀ k j, ¬ (k = 77 ∧ j = i) → M11 k j = M9 k j := fun k j r => by rw [← eM, up2_of r]
    have U : ∀ k j, ¬ (k = 77 ∧ j = i) → k ≠ 79 → k ≠ 80 → M11 k j = M k j := fun k j r1 r2 r3 => by rw [u k j r1, a3 k j r2 r3]
    obtain ⟨r, b1, b2⟩ := c_fbL (M := M11) hm hnx (D := i) (by omega) (fun t ht => by rw [← eM, up2_at]; exact a2 t ht) (fun s hs => by
      obtain ⟨g1, g2, g3, g4⟩ := (hnx i s).mp hs
      have hlt := up_d i (by omega) s (by omega) g1 g3
      have hor : i ||| s < 2 ^ m := Nat.or_lt_two_pow (by omega) (by omega)
      rw [U _ _ (by omega) (by omega) (by omega)]
      exact h4.1 (i ||| s) (by omega) (by omega)) (2 ^ m - 1) 1 FU (-9) (by omega) (by have := FU_eq; omega) (Or.inl ⟨rfl, fun t ht hn c => by
      have := ((hnx i t).mp hn).1
      omega⟩)
    have eb : f_X8_fewestBehind M11 (nI i) (nI (2 ^ m - 1)) = some r := b1
    rw [eb, br_s, if_pos bo, nm_eq, dm2]
    generalize eM2 : up2 M11 78 i r = M14
    have u2 : ∀ k j, ¬ (k = 78 ∧ j = i) → M14 k j = M11 k j := fun k j r => by rw [← eM2, up2_of r]
    obtain ⟨M', e1, e2, e3⟩ := ih f M14 (h.cong (fun k j _ r => by rw [u2 k j (by unfold relLo at r; omega), U k j (by unfold relLo at r; omega) (by unfold relLo at r; omega) (by unfold relLo at r; omega)])) (h1.cong (fun k j _ _ => by rw [u2 k j (by omega), U k j (by omega) (by omega) (by omega)])) (by omega) (by omega) ⟨fun E g1 g2 => by
      by_cases e : E = i
      · subst e
        rw [← eM2, up2_at]
        exact ac_fw hm hnx (by omega) b2
      · rw [u2 _ _ (by omega), U _ _ (by omega) (by omega) (by omega)]
        exact h4.1 E (by omega) g2, fun E g1 g2 t ht => by
      by_cases e : E = i
      · subst e
        rw [u2 _ _ (by omega), ← eM, up2_at]
        exact a2 t ht
      · rw [u2 _ _ (by omega), U _ _ (by omega) (by omega) (by omega)]
        exact h4.2 E (by omega) g2 t ht⟩
    exact ⟨M', e1, e2, fun k j r => by rw [e3 k j r, u2 k j (by omega), U k j (by omega) (by omega) (by omega)]⟩
theorem c_find1 {M : MM} (h : CLo M n kd ld bw ht dr hd tr) (h1 : MV M m mb mh) (R : Rng n kd ld bw ht dr hd tr) (hm : m ≤ 5) (hi : injM m mb) (hcb : ∀ D s, cb D s = true ↔ CAN n (pl kd ld bw) dr (brS mb mh ht D m) (brS mb mh ht (D ||| s) m) hd) (hnx : ∀ D s, nx D s = true ↔ (1 ≤ s ∧ s ≤ 2 ^ m - 1 ∧ s &&& D = 0 ∧ cb D s = true)) : ∃ M' : MM, f_X8_find M = KF M' ∧ FWD nx m M' 0 ∧ ∀ k j, ¬ (77 ≤ k ∧ k ≤ 80) → M' k j = M k j := by
  obtain ⟨p32, p1⟩ := p5_d m (by omega)
  unfold f_X8_find
  rw [h1.1, (p2_d m (by omega)).1, show nI (2 ^ m) - (1 : Int32) = nI (2 ^ m - 1) from pk_sub (b := 1) (by omega)]
  simp only [nm_eq]
  rw [if_pos (ib_ok (show 2 ^ m - 1 < 32 by omega) (by omega)), nI_clamp (by omega)]
  obtain ⟨M', e1, e2, e3⟩ := c_findL R hm hi hcb hnx (2 ^ m - 1) FU (up2 M 78 (2 ^ m - 1) 0) (h.cong (fun k j _ r => up2_of (by unfold relLo at r; omega))) (h1.cong (fun k j _ _ => up2_of (by omega))) (Nat.le_refl _) (by have := FU_eq; omega) ⟨fun E g1 g2 => by
    obtain rfl : E = 2 ^ m - 1 := by omega
    rw [up2_at]
    exact Or.inr ⟨0, by omega, rfl, rfl, fun c' hc' => by omega⟩, fun E g1 g2 => by omega⟩
  exact ⟨M', e1, e2, fun k j r => by rw [e3 k j r, up2_of (by omega)]⟩
/-- a row of numbers read -/
theorem c_rdL {b : Nat} (hb : 0 < b) (hb5 : b ≤ 5) : ∀ (i fuel : Nat) (rest : Nat) (x : Nat → Nat) (M : MM), i ≤ 5 → i < fuel → rest < 10000 → (∀ c, c < 5 → x c < 32 ∧ M 82 c = nI (x c)) → ∃ M' : MM, g_X8_readRow_37 fuel M (nI b) (nI rest) (nI i - (1 : Int32)) = some M' ∧ (∀ k, k < i → M' 81 k = nI (rdD b i rest k)) ∧ (∀ c, c < 5 → M' 82 c = nI (x c ||| ofI (rdD b i rest) i c)) ∧ (∀ k, i ≤ k → M' 81 k = M 81 k) ∧ ∀ k j, k ≠ 81 → k ≠ 82 → M' k j = M k j := by
  intro i
  induction i with
  | zero =>
    intro fuel rest x M h1 h2 h3 h4
    obtain ⟨f, rfl⟩ : ∃ f, fuel = f + 1 := ⟨fuel - 1, by omega⟩
    rw [g_X8_readRow_37, if_pos (by decide)]
    refine ⟨M, rfl, fun k hk => by omega, fun c hc => ?_, fun _ _ => rfl, fun _ _ _ _ => rfl⟩
    show _ = nI (x c ||| 0)
    rw [Nat.or_zero]
    exact (h4 c hc).2
  | succ i ih =>
    intro fuel rest x M h1 h2 h3 h4
    obtain ⟨f, rfl⟩ : ∃ f, fuel = f + 1 := ⟨fuel - 1, by omega⟩
    have bo := ib_ok (show i < 5 by omega) (show 5 ≤ 2 ^ 31 by omega)
    have hmod : rest % b < b := Nat.mod_lt _ hb
    have er : rm32 (nI rest) (nI b) = nI (rest % b) := pk_rem (by omega) hb (by omega)
    have bo2 := ib_ok (show rest % b < 5 by omega) (show 5 ≤ 2 ^ 31 by omega)
    have hdv : rest / b ≤ rest := Nat.div_le_self _ _
    have nb0 : ¬ nI b = 0 := nI_n0 hb (by omega)
    rw [g_X8_readRow_37, dm1, if_neg (nI_pos (by omega)), if_neg nb0, if_pos bo, nI_clamp (by omega), er, nm_eq, up2_at, if_pos bo, if_pos bo2, if_pos bo2, nI_clamp (by omega), nm_eq, if_neg nb0, nm_eq, dm2, pk_div (by omega) hb (by omega), up2_of (by omega), (h4 _ (by omega)).2]
    obtain ⟨x1, x2⟩ := h4 (rest % b) (by omega)
    have p32 := p5_d i (by omega)
    have p32b : 2 ^ i < 32 := by
      have := p5_d (i + 1) (by omega)
      rw [Nat.pow_succ] at this
      omega
    have es : sl32 (1 : Int32) (nI i) = nI (2 ^ i) := (p2_d i (by omega)).1
    rw [es, (bd_d (x (rest % b)) x1 (2 ^ i) p32b).2.1]
    generalize eM : up2 (up2 M 81 i (nI (rest % b))) 82 (rest % b) (nI (x (rest % b) ||| 2 ^ i)) = M5
    have u : ∀ k j, ¬ (k = 81 ∧ j = i) → ¬ (k = 82 ∧ j = rest % b) → M5 k j = M k j := fun k j r1 r2 => by rw [← eM, up2_of r2, up2_of r1]
    obtain ⟨M', e1, e2, e3, e4, e5⟩ := ih f (rest / b) (fun c => if c = rest % b then x c ||| 2 ^ i else x c) M5 (by omega) (by omega) (by omega) (fun c hc => by
      obtain ⟨y1, y2⟩ := h4 c hc
      try dsimp only
      by_cases e : c = rest % b
      · rw [if_pos e, e, ← eM, up2_at]
        exact ⟨(bd_d _ x1 (2 ^ i) p32b).2.2, rfl⟩
      · rw [if_neg e, u _ _ (by omega) (by omega)]
        exact ⟨y1, y2⟩)
    refine ⟨M', e1, fun k hk => ?_, fun c hc => ?_, fun k hk => by rw [e4 k (by omega), u _ _ (by omega) (by omega)], fun k j r1 r2 => by rw [e5 k j r1 r2, u _ _ (by omega) (by omega)]⟩
    · rw [rdD_s]
      by_cases e : k = i
      · subst e
        rw [if_pos rfl, e4 k (Nat.le_refl k), ← eM, up2_of (by omega), up2_at]
      · rw [if_neg e]
        exact e2 k (by omega)
    · rw [e3 c hc]
      congr 1
      have eo : ofI (rdD b (i + 1) rest) (i + 1) c = ofI (rdD b i (rest / b)) i c ||| (if c = rest % b then 2 ^ i else 0) := by
        unfold ofI
        rw [stP_s, stP_cg (q := fun k => decide (rdD b i (rest / b) k = c)) i (fun k hk => by rw [rdD_s, if_neg (by omega)]), rdD_s, if_pos rfl]
        congr 1
        by_cases e : c = rest % b
        · rw [if_pos e, if_pos (by simp [e])]
        · rw [if_neg e, if_neg (by simp; omega)]
      rw [eo]
      by_cases e : c = rest % b
      · rw [if_pos e, if_pos e, Nat.or_assoc, Nat.or_comm (2 ^ i)]
      · rw [if_neg e, if_neg e, Nat.or_zero]
theorem c_zrL : ∀ (d i fuel : Nat) (M : MM) (v1 v2 : Int32), i + d = 5 → d < fuel → ∃ M' : MM, g_X8_readRow_2 fuel M v1 v2 (nI i) = g_X8_readRow_37 FU M' (mx32 (M 76 6) (1 : Int32)) v1 (v2 - (1 : Int32)) ∧ (∀ c, i ≤ c → c < 5 → M' 82 c = 0) ∧ ∀ k j, ¬ (k = 82 ∧ i ≤ j ∧ j < 5) → M' k j = M k j := by
  intro d
  induction d with
  | zero =>
    intro i fuel M v1 v2 h1 h2
    obtain ⟨f, rfl⟩ : ∃ f, fuel = f + 1 := ⟨fuel - 1, by omega⟩
    obtain rfl : i = 5 := by omega
    rw [g_X8_readRow_2, if_pos (show (5 : Int32) ≤ nI 5 by decide), nm_eq, nm_eq]
    exact ⟨M, rfl, fun c g1 g2 => by omega, fun _ _ _ => rfl⟩
  | succ d ih =>
    intro i fuel M v1 v2 h1 h2
    obtain ⟨f, rfl⟩ : ∃ f, fuel = f + 1 := ⟨fuel - 1, by omega⟩
    rw [g_X8_readRow_2, if_neg (show ¬ (5 : Int32) ≤ nI i from nI_ge (b := 5) (by omega) (by omega)), if_pos (ib_ok (show i < 5 by omega) (by omega)), nI_clamp (by omega), nm_eq, show nI i + (1 : Int32) = nI (i + 1) from nI_1 i]
    obtain ⟨M', e1, e2, e3⟩ := ih (i + 1) f (up2 M 82 i 0) v1 v2 (by omega) (by omega)
    rw [up2_of (by omega)] at e1
    refine ⟨M', e1, fun c g1 g2 => ?_, fun k j r => by rw [e3 k j (by omega), up2_of (by omega)]⟩
    by_cases e : c = i
    · subst e
      rw [e3 _ _ (by omega), up2_at]
    · exact e2 c (by omega) g2
theorem c_readR {M : MM} {c row : Nat} (hc : c ≤ 5) (hm : m ≤ 5) (hr : row < 10000) (h76 : M 76 6 = nI c) : ∃ M' : MM, f_X8_readRow M (nI row) (nI m) = some M' ∧ (∀ k, k < m → M' 81 k = nI (rdD (max c 1) m row k)) ∧ (∀ i, i < 5 → M' 82 i = nI (ofI (rdD (max c 1) m row) m i)) ∧ ∀ k j, k ≠ 81 → k ≠ 82 → M' k j = M k j := by
  obtain ⟨M1, a1, a2, a3⟩ := c_zrL 5 0 FU M (nI row) (nI m) (by omega) (by have := FU_eq; omega)
  have a1' : f_X8_readRow M (nI row) (nI m) = _ := a1
  have eb : mx32 (M 76 6) (1 : Int32) = nI (max c 1) := by
    rw [h76]
    unfold mx32
    by_cases e : c < 1
    · rw [if_pos (show nI c < (1 : Int32) from nI_lt (b := 1) e (by omega)), show max c 1 = 1 by omega]
      rfl
    · rw [if_neg (show ¬ nI c < (1 : Int32) from nI_nlt (b := 1) (by omega) (by omega)), show max c 1 = c by omega]
  obtain ⟨M', e1, e2, e3, e4, e5⟩ := c_rdL (b := max c 1) (by omega) (by omega) m FU row (fun _ => 0) M1 hm (by have := FU_eq; omega) hr (fun c hc => ⟨by omega, a2 c (by omega) hc⟩)
  rw [a1', eb]
  refine ⟨M', e1, e2, fun i hi => ?_, fun k j r1 r2 => by rw [e5 k j r1 r2, a3 k j (by omega)]⟩
  rw [e3 i hi, Nat.zero_or]
theorem c_rowC {M : MM} (hm : m ≤ 5) (hnx : ∀ D s, nx D s = true ↔ (1 ≤ s ∧ s ≤ 2 ^ m - 1 ∧ s &&& D = 0 ∧ cb D s = true)) {c : Nat} (hc : c ≤ 5) (h76 : M 76 6 = nI c) (hF : ∀ E, E < 2 ^ m - 1 → ∀ t, t < 32 → bt (M 77 E) t = nx E t) {I : Nat → Nat} (hI : ∀ i, i < 5 → M 82 i = nI (I i) ∧ I i ≤ 2 ^ m - 1) (hmin : ∀ c', c' < c → ¬ RR (nxP nx) (2 ^ m - 1) c' 0) : ∀ (d i fuel D : Nat), i + d = c → d < fuel → D ≤ 2 ^ m - 1 → RP (nxP nx) i D → g_X8_rowCanBe_4 M fuel (nI D) (nI i) = some (b2i (chQ nx I d i D)) := by
  obtain ⟨p32, p1⟩ := p5_d m (by omega)
  intro d
  induction d with
  | zero =>
    intro i fuel D h1 h2 h3 h4
    obtain ⟨f, rfl⟩ : ∃ f, fuel = f + 1 := ⟨fuel - 1, by omega⟩
    obtain rfl : i = c := by omega
    rw [g_X8_rowCanBe_4, h76, if_pos (nI_le (Nat.le_refl i) (by omega))]
    rfl
  | succ d ih =>
    intro i fuel D h1 h2 h3 h4
    obtain ⟨f, rfl⟩ : ∃ f, fuel = f + 1 := ⟨fuel - 1, by omega⟩
    have hD : D < 2 ^ m - 1 := by
      by_cases e : D = 2 ^ m - 1
      · have := RP_RR (all := 2 ^ m - 1) i 0 D h4 e
        exact absurd this (hmin (i + 0) (by omega))
      · omega
    obtain ⟨i1, i2⟩ := hI i (by omega)
    have bo := ib_ok (show i < 5 by omega) (show 5 ≤ 2 ^ 31 by omega)
    obtain ⟨-, o2, o3⟩ := bd_d D (by omega) (I i) (by omega)
    rw [g_X8_rowCanBe_4, h76, if_neg (nI_ge (by omega) (by omega)), if_pos (ib_ok (show D < 32 by omega) (by omega)), if_pos bo, nI_clamp (by omega), nI_clamp (by omega), i1, bt_us _ (show I i < 32 by omega), hF D hD (I i) (by omega), chQ_s, if_pos bo, o2, nm_eq, show nI i + (1 : Int32) = nI (i + 1) from nI_1 i]
    cases q : nx D (I i) with
    | false => rw [if_pos (by decide), if_neg (by decide)]; rfl
    | true =>
      rw [if_neg (by decide), if_pos rfl]
      have hor : D ||| I i < 2 ^ m := Nat.or_lt_two_pow (by omega) (by omega)
      exact ih (i + 1) f (D ||| I i) (by omega) (by omega) (by omega) ⟨D, I i, h4, q, rfl⟩
end SPE
