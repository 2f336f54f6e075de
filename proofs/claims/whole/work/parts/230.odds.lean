-- which are seen, as bits
theorem sn_bit {e : Nat → Nat} : ∀ (d i S bnd : Nat), i + d ≤ 8 → S < 2 ^ i → ∃ S', snS e d i (nI S) bnd = nI S' ∧ S' < 2 ^ (i + d) ∧ (∀ b, b < i → S'.testBit b = S.testBit b) ∧ ∀ b, i ≤ b → b < i + d → (S'.testBit b = true ↔ (e b < bnd ∧ ∀ a, i ≤ a → a < b → e b < e a))
  | 0, i, S, bnd, h1, h2 => ⟨S, rfl, h2, fun _ _ => rfl, fun b g1 g2 => by omega⟩
  | d + 1, i, S, bnd, h1, h2 => by
    have p1 : 2 ^ i * 2 = 2 ^ (i + 1) := (Nat.pow_succ 2 i).symm
    have p2 : 2 ^ (i + 1) ≤ 2 ^ 8 := Nat.pow_le_pow_right (by omega) (by omega)
    have e8 : (2 : Nat) ^ 8 = 256 := by decide
    show ∃ S', (if e i < bnd then snS e d (i + 1) (nI S ||| sl32 1 (nI i)) (e i) else snS e d (i + 1) (nI S) bnd) = nI S' ∧ _
    by_cases q : e i < bnd
    · obtain ⟨-, -, t3, -⟩ := tw1_d S (by omega) i (by omega)
      rw [if_pos q, t3]
      have hor : S ||| 2 ^ i < 2 ^ (i + 1) := Nat.or_lt_two_pow (by omega) (by omega)
      obtain ⟨S', s1, s2, s3, s4⟩ := sn_bit (e := e) d (i + 1) (S ||| 2 ^ i) (e i) (by omega) hor
      refine ⟨S', s1, by rw [show i + (d + 1) = i + 1 + d by omega]; exact s2, fun b hb => ?_, fun b g1 g2 => ?_⟩
      · rw [s3 b (by omega), Nat.testBit_or, Nat.testBit_two_pow, decide_eq_false (by omega), Bool.or_false]
      · by_cases eb : b = i
        · subst eb
          rw [s3 b (by omega), Nat.testBit_or, Nat.testBit_two_pow, decide_eq_true rfl, Bool.or_true]
          exact ⟨fun _ => ⟨q, fun a x y => by omega⟩, fun _ => rfl⟩
        · rw [s4 b (by omega) (by omega)]
          constructor
          · rintro ⟨x, y⟩
            refine ⟨by omega, fun a z1 z2 => ?_⟩
            by_cases ea : a = i
            · subst ea; exact x
            · exact y a (by omega) z2
          · rintro ⟨x, y⟩
            exact ⟨y i (by omega) (by omega), fun a z1 z2 => y a (by omega) z2⟩
    · rw [if_neg q]
      obtain ⟨S', s1, s2, s3, s4⟩ := sn_bit (e := e) d (i + 1) S bnd (by omega) (by omega)
      refine ⟨S', s1, by rw [show i + (d + 1) = i + 1 + d by omega]; exact s2, fun b hb => s3 b (by omega), fun b g1 g2 => ?_⟩
      by_cases eb : b = i
      · subst eb
        rw [s3 b (by omega), Nat.testBit_lt_two_pow h2]
        exact ⟨fun z => (by cases z), fun z => absurd z.1 q⟩
      · rw [s4 b (by omega) (by omega)]
        constructor
        · rintro ⟨x, y⟩
          refine ⟨x, fun a z1 z2 => ?_⟩
          by_cases ea : a = i
          · subst ea; omega
          · exact y a (by omega) z2
        · rintro ⟨x, y⟩
          exact ⟨x, fun a z1 z2 => y a (by omega) z2⟩
theorem sb_d : ∀ s, s < 256 → ∀ b, b < 8 → sr32 (nI s) (nI b) &&& (1 : Int32) = nI (if s.testBit b = true then 1 else 0) := by decide +kernel
-- odds: of all ways to be up or down
def hsO (n s : Nat) (ht : Nat → Nat) : Nat → Nat := fun k => if k < n then (if s.testBit k = true then 9 else 0) else ht k
def cnO (b : Nat) (u : Bool) : Nat → Nat
  | 0 => 0
  | s + 1 => cnO b u s + (if s % 2 ^ (b + 1) = 2 ^ b - 1 ∨ (u = true ∧ s % 2 ^ (b + 1) = 2 ^ (b + 1) - 1) then 1 else 0)
theorem cnO_d : ∀ n, n < 9 → ∀ b, b < n → (cnO b true (2 ^ n) = 2 ^ (n - b) ∧ cnO b false (2 ^ n) = 2 ^ (n - 1 - b)) := by decide +kernel
theorem low_d : ∀ s, s < 256 → ∀ b, b < 8 → ((s % 2 ^ (b + 1) = 2 ^ b - 1) ↔ (s.testBit b = false ∧ ∀ a, a < b → s.testBit a = true)) ∧ ((s % 2 ^ (b + 1) = 2 ^ (b + 1) - 1) ↔ (s.testBit b = true ∧ ∀ a, a < b → s.testBit a = true)) := by decide +kernel
theorem ilt_M (M M' : MM) : ∀ (f : Nat) (a b : Int64) (c : Int32) (d e : Int64), g_X11_inLeastTerms_6 M f a b c d e = g_X11_inLeastTerms_6 M' f a b c d e
  | 0, _, _, _, _, _ => rfl
  | f + 1, a, b, c, d, e => by
    rw [g_X11_inLeastTerms_6, g_X11_inLeastTerms_6]
    rw [ilt_M M M' f]
theorem ilt_d : ∀ n, n < 9 → ∀ b, b < n → ∀ w, w < 2 → (f_X11_inLeastTerms (fun _ _ => 0) ((nI (2 ^ (n - b))).toInt64) (sl64 (1 : Int64) (nI n)) (nI w) = some (if w = 0 then 1 else sl64 (1 : Int64) (nI b)) ∧ f_X11_inLeastTerms (fun _ _ => 0) ((nI (2 ^ (n - 1 - b))).toInt64) (sl64 (1 : Int64) (nI n)) (nI w) = some (if w = 0 then 1 else sl64 (1 : Int64) (nI b + (1 : Int32)))) := by decide +kernel
theorem p2_d : ∀ n, n < 9 → sl32 (1 : Int32) (nI n) = nI (2 ^ n) ∧ 2 ^ n ≤ 256 := by decide +kernel
section ODDS
variable {n : Nat} {kd ld bw ht dr : Nat → Nat} {hd tr : Nat}
theorem m_oddI {b s : Nat} {v2 v3 : Int32} (n8 : n ≤ 8) (hs : s < 256) (rec : MM → Int32 → Int32 → Int32 → Int32 → Option (Int64 × MM)) : ∀ (d k fuel : Nat) (M : MM), M 83 5 = nI n → (∀ j, j < k → M 90 j = nI (if s.testBit j = true then 9 else 0)) → k + d = n → d < fuel → ∃ M' : MM, g_X11_odds_44 rec fuel M (nI b) v2 v3 (nI s) (nI k) = (br (f_X11_seenNow M') fun r13 => (nm (v3 + ((sr32 r13 (nI b)) &&& (1 : Int32))) fun x15 => rec M' (nI b) v2 x15 (nI (s + 1)))) ∧ (∀ j, j < n → M' 90 j = nI (if s.testBit j = true then 9 else 0)) ∧ ∀ x j, ¬ (x = 90 ∧ j < n) → M' x j = M x j := by
  intro d
  induction d with
  | zero =>
    intro k fuel M h1 h2 h3 h4
    obtain ⟨f, rfl⟩ : ∃ f, fuel = f + 1 := ⟨fuel - 1, by omega⟩
    obtain rfl : k = n := by omega
    rw [g_X11_odds_44, h1, if_pos (nI_le (Nat.le_refl k) (by omega)), show nI s + (1 : Int32) = nI (s + 1) from nI_1 s]
    exact ⟨M, rfl, h2, fun _ _ _ => rfl⟩
  | succ d ih =>
    intro k fuel M h1 h2 h3 h4
    obtain ⟨f, rfl⟩ : ∃ f, fuel = f + 1 := ⟨fuel - 1, by omega⟩
    have bo := ib_ok (show k < 8 by omega) (show 8 ≤ 2 ^ 31 by omega)
    have go : ∀ v : Nat, v = (if s.testBit k = true then 9 else 0) → ∃ M' : MM, g_X11_odds_44 rec f (up2 M 90 k (nI v)) (nI b) v2 v3 (nI s) (nI (k + 1)) = (br (f_X11_seenNow M') fun r13 => (nm (v3 + ((sr32 r13 (nI b)) &&& (1 : Int32))) fun x15 => rec M' (nI b) v2 x15 (nI (s + 1)))) ∧ (∀ j, j < n → M' 90 j = nI (if s.testBit j = true then 9 else 0)) ∧ ∀ x j, ¬ (x = 90 ∧ j < n) → M' x j = M x j := by
      intro v hv
      obtain ⟨M', e1, e2, e3⟩ := ih (k + 1) f (up2 M 90 k (nI v)) (by rw [up2_of (by omega)]; exact h1) (fun j hj => by
        by_cases e : j = k
        · rw [e, up2_at, hv]
        · rw [up2_of (by omega)]; exact h2 j (by omega)) (by omega) (by omega)
      exact ⟨M', e1, e2, fun x j r => by rw [e3 x j r, up2_of (by omega)]⟩
    rw [g_X11_odds_44, h1, if_neg (nI_ge (by omega) (by omega)), sb_d s hs k (by omega), if_pos bo, if_pos bo, nI_clamp (by omega), nm_eq, nm_eq, show nI k + (1 : Int32) = nI (k + 1) from nI_1 k]
    cases q : s.testBit k with
    | true =>
      rw [if_pos (by decide)]
      exact go 9 (by rw [q]; rfl)
    | false =>
      rw [if_neg (by decide)]
      exact go 0 (by rw [q]; rfl)
theorem c_up {M : MM} (h : CLo M n kd ld bw ht dr hd tr) (R : Rng n kd ld bw ht dr hd tr) {b : Nat} (hb : b < 8) : ∀ (d a fuel : Nat), a + d = b → d < fuel → (∀ x, x < a → 9 - dr b < 9 - dr x) → ∃ u : Bool, g_X1_isSeenAmongUp_10 M fuel (nI b) (nI (9 - dr b)) (nI a) = some (b2i u) ∧ (u = true ↔ (9 - dr b < tr ∧ ∀ x, x < b → 9 - dr b < 9 - dr x)) := by
  have t9 := R.2.2.2
  intro d
  induction d with
  | zero =>
    intro a fuel h1 h2 h3
    obtain ⟨f, rfl⟩ : ∃ f, fuel = f + 1 := ⟨fuel - 1, by omega⟩
    obtain rfl : a = b := by omega
    rw [g_X1_isSeenAmongUp_10, if_pos (nI_le (Nat.le_refl a) (by omega)), h.2.2.2.2.2.2.2]
    by_cases q : 9 - dr a < tr
    · rw [if_neg (nI_ge q (by omega))]
      exact ⟨true, rfl, fun _ => ⟨q, h3⟩, fun _ => rfl⟩
    · rw [if_pos (nI_le (by omega) (by omega))]
      exact ⟨false, rfl, fun z => (by cases z), fun z => absurd z.1 q⟩
  | succ d ih =>
    intro a fuel h1 h2 h3
    obtain ⟨f, rfl⟩ : ∃ f, fuel = f + 1 := ⟨fuel - 1, by omega⟩
    have ee : f_X1_edge M (nI a) (9 : Int32) = some (nI (9 - dr a)) := c_edge h R (a := 9) (show a < 8 by omega) (by omega)
    rw [g_X1_isSeenAmongUp_10, if_neg (nI_ge (by omega) (by omega)), ee, br_s, show nI a + (1 : Int32) = nI (a + 1) from nI_1 a]
    by_cases q : 9 - dr b < 9 - dr a
    · rw [if_pos (nI_lt q (by omega))]
      exact ih (a + 1) f (by omega) (by omega) (fun x hx => by
        by_cases e : x = a
        · subst e; exact q
        · exact h3 x (by omega))
    · rw [if_neg (nI_nlt (by omega) (by omega))]
      exact ⟨false, rfl, fun z => (by cases z), fun z => absurd (z.2 a (by omega)) q⟩
theorem m_oddO (R : Rng n kd ld bw ht dr hd tr) {b : Nat} (hb : b < n) (ht1 : 1 ≤ tr) {u : Bool} (hu : u = true ↔ (9 - dr b < tr ∧ ∀ x, x < b → 9 - dr b < 9 - dr x)) {v2 : Int32} : ∀ (d s fuel : Nat) (M : MM), (∃ a : Nat → Nat, MLo M n kd ld bw a dr hd tr ∧ ∀ j, n ≤ j → j < 8 → a j = ht j) → s + d = 2 ^ n → d < fuel → ∃ M' : MM, g_X11_odds_30 fuel M (nI b) v2 (nI (cnO b u s)) (nI s) = (br (f_X11_putHeights M') fun M9 => (br (f_X11_inLeastTerms M9 ((nI (cnO b u (2 ^ n))).toInt64) (sl64 (1 : Int64) (M9 83 5)) v2) fun r11 => (some (r11, M9)))) ∧ ∀ x j, ¬ (x = 90 ∧ j < n) → M' x j = M x j := by
  have n8 := R.1
  obtain ⟨pn, pn2⟩ := p2_d n (by omega)
  intro d
  induction d with
  | zero =>
    intro s fuel M hM h1 h2
    obtain ⟨f, rfl⟩ : ∃ f, fuel = f + 1 := ⟨fuel - 1, by omega⟩
    obtain rfl : s = 2 ^ n := by omega
    obtain ⟨a, hA, -⟩ := hM
    rw [g_X11_odds_30, hA.1, pn, if_pos (nI_le (Nat.le_refl _) (by omega))]
    exact ⟨M, rfl, fun _ _ _ => rfl⟩
  | succ d ih =>
    intro s fuel M hM h1 h2
    obtain ⟨f, rfl⟩ : ∃ f, fuel = f + 1 := ⟨fuel - 1, by omega⟩
    obtain ⟨a, hA, ha⟩ := hM
    obtain ⟨M', i1, i2, i3⟩ := m_oddI (b := b) (s := s) (v2 := v2) (v3 := nI (cnO b u s)) n8 (by omega) (g_X11_odds_30 f) n 0 FU M hA.1 (fun j hj => by omega) (by omega) (by have := FU_eq; omega)
    have hM' : MLo M' n kd ld bw (hsO n s ht) dr hd tr := by
      refine ⟨by rw [i3 _ _ (by omega)]; exact hA.1, fun j hj => by rw [i3 _ _ (by omega)]; exact hA.2.1 j hj, fun j hj => by rw [i3 _ _ (by omega)]; exact hA.2.2.1 j hj, fun j hj => by rw [i3 _ _ (by omega)]; exact hA.2.2.2.1 j hj, fun j hj => by rw [i3 _ _ (by omega)]; exact hA.2.2.2.2.1 j hj, fun j hj => ?_, by rw [i3 _ _ (by omega)]; exact hA.2.2.2.2.2.2.1, by rw [i3 _ _ (by omega)]; exact hA.2.2.2.2.2.2.2⟩
      unfold hsO
      by_cases e : j < n
      · rw [if_pos e]; exact i2 j e
      · rw [if_neg e, i3 _ _ (by omega), ← ha j (by omega) hj]; exact hA.2.2.2.2.2.1 j hj
    have R' : Rng n kd ld bw (hsO n s ht) dr hd tr := R.hts (fun j hj => by
      unfold hsO
      split
      · split <;> omega
      · exact (R.2.1 j hj).2.2.2.1) R.2.2.1
    obtain ⟨S, s1, s2, s3, s4⟩ := sn_bit (e := fun j => hsO n s ht j - dr j) n 0 0 tr (by omega) (by omega)
    have hS : S < 256 := by rw [Nat.zero_add] at s2; omega
    have i1' : g_X11_odds_44 (g_X11_odds_30 f) FU M (nI b) v2 (nI (cnO b u s)) (nI s) 0 = _ := i1
    rw [g_X11_odds_30, hA.1, pn, if_neg (nI_ge (by omega) (by omega)), i1', m_seenNow hM' R', br_s, nm_eq, show snS (fun j => hsO n s ht j - dr j) n 0 0 tr = nI S from s1, sb_d S hS b (by omega), nI_add]
    have ec : cnO b u s + (if S.testBit b = true then 1 else 0) = cnO b u (s + 1) := by
      show _ = cnO b u s + _
      congr 1
      obtain ⟨l1, l2⟩ := low_d s (by omega) b (by omega)
      have key : S.testBit b = true ↔ (s % 2 ^ (b + 1) = 2 ^ b - 1 ∨ (u = true ∧ s % 2 ^ (b + 1) = 2 ^ (b + 1) - 1)) := by
        rw [s4 b (by omega) (by omega), l1, l2, hu]
        have eh : ∀ k, k < n → hsO n s ht k = if s.testBit k = true then 9 else 0 := fun k hk => by unfold hsO; rw [if_pos hk]
        have d3 : ∀ k, k < n → dr k ≤ 3 := fun k hk => (R.2.1 k (by omega)).2.2.2.2
        constructor
        · rintro ⟨x, y⟩
          have ys : ∀ a, a < b → s.testBit a = true := fun a ha => by
            have := y a (by omega) ha
            rw [eh a (by omega)] at this
            cases q : s.testBit a with
            | true => rfl
            | false => rw [q] at this; simp at this
          cases qb : s.testBit b with
          | false => exact Or.inl ⟨rfl, ys⟩
          | true =>
            right
            rw [eh b hb, if_pos qb] at x y
            refine ⟨⟨x, fun z hz => ?_⟩, rfl, ys⟩
            have := y z (by omega) hz
            rw [eh z (by omega), if_pos (ys z hz)] at this
            exact this
        · rintro (⟨x, y⟩ | ⟨⟨x, y⟩, z, w⟩)
          · rw [eh b hb, x]
            refine ⟨by simp; omega, fun a _ ha => ?_⟩
            rw [eh a (by omega), y a ha]
            have := d3 a (by omega)
            simp
            omega
          · rw [eh b hb, if_pos z]
            refine ⟨x, fun a _ ha => ?_⟩
            rw [eh a (by omega), if_pos (w a ha)]
            exact y a ha
      by_cases q : S.testBit b = true
      · rw [if_pos q, if_pos (key.mp q)]
      · rw [if_neg q, if_neg (fun z => q (key.mpr z))]
    rw [ec]
    obtain ⟨M2, e1, e2⟩ := ih (s + 1) f M' ⟨_, hM', fun j h1 h2 => by unfold hsO; rw [if_neg (by omega)]⟩ (by omega) (by omega)
    exact ⟨M2, e1, fun x j r => by rw [e2 x j r, i3 x j r]⟩
end ODDS
theorem s_odds : St_odds Inv := by
  intro M h a1 a2
  obtain ⟨n, kd, ld, br, ht, dr, hd, tr, hL, hS, h3, h4, h5, h6⟩ := id h
  have n8 := hL.n8
  cases hin : hb n a1 with
  | false => exact ⟨-9223372036854775808, M, by simp [f_X10_odds, c_has hL.n1, hin, br_s, b2i0], by simp [f_X11_odds, m_has hL.n2, hin, br_s, b2i0], h⟩
  | true =>
    obtain ⟨b, hb, rfl⟩ := hb_yes (by omega) hin
    cases h2 : inR a2 0 1 with
    | false => exact ⟨-9223372036854775808, M, by simp [f_X10_odds, c_has hL.n1, hin, br_s, b2i0, w10_0_1, h2], by simp [f_X11_odds, m_has hL.n2, hin, br_s, b2i0, w11_0_1, h2], h⟩
    | true =>
      obtain ⟨w, w1, rfl⟩ := inR_yes0 (by omega) h2
      have R := hL.2.2.1
      obtain ⟨u, u1, u2⟩ := c_up hL.1 R (b := b) (by omega) b 0 FU (by omega) (by have := FU_eq; omega) (fun x hx => by omega)
      have ee : f_X1_edge M (nI b) (9 : Int32) = some (nI (9 - dr b)) := c_edge hL.1 R (a := 9) (show b < 8 by omega) (by omega)
      have eu : f_X1_isSeenAmongUp M (nI b) = some (b2i u) := by
        unfold f_X1_isSeenAmongUp
        rw [ee, br_s]
        exact u1
      obtain ⟨Mk, k0, k1, k2⟩ := m_keepH M
      have hMk : MLo Mk n kd ld br ht dr hd tr := hL.2.1.cong (fun k i g r => k2 k i (by unfold relLo at r; omega))
      obtain ⟨Mo, o1, o2⟩ := m_oddO R hb (by have := hL.ps; omega) u2 (v2 := nI w) (2 ^ n) 0 FU Mk ⟨ht, hMk, fun j _ _ => rfl⟩ (by omega) (by have := (p2_d n (by omega)).2; have := FU_eq; omega)
      obtain ⟨Mp, p0, p1, p2⟩ := m_putH Mo
      have o1' : g_X11_odds_30 FU Mk (nI b) (nI w) 0 0 = _ := o1
      have hp5 : Mp 83 5 = nI n := by rw [p2 _ _ (by omega), o2 _ _ (by omega), k2 _ _ (by omega)]; exact hL.n2
      obtain ⟨t1, t2⟩ := ilt_d n (by omega) b hb w (by omega)
      obtain ⟨q1, q2⟩ := cnO_d n (by omega) b hb
      have ei : f_X11_inLeastTerms Mp ((nI (cnO b u (2 ^ n))).toInt64) (sl64 (1 : Int64) (nI n)) (nI w) = some (if w = 0 then 1 else if u = true then sl64 (1 : Int64) (nI b) else sl64 (1 : Int64) (nI b + (1 : Int32))) := by
        unfold f_X11_inLeastTerms at t1 t2 ⊢
        rw [ilt_M Mp (fun _ _ => 0)]
        cases u with
        | true => rw [q1, t1]; rfl
        | false => rw [q2, t2]; rfl
      refine ⟨(if w = 0 then 1 else if u = true then sl64 (1 : Int64) (nI b) else sl64 (1 : Int64) (nI b + (1 : Int32))), Mp, ?_, ?_, h.scr2 (fun k i r r2 => ?_)⟩
      · unfold f_X10_odds
        rw [c_has hL.n1, hin, br_s, if_neg (by decide), w10_0_1, h2, br_s, if_neg (by decide), eu, br_s]
        show _ = some (if w = 0 then 1 else if u = true then sl64 (1 : Int64) (nI b) else sl64 (1 : Int64) (nI b + (1 : Int32)))
        by_cases e : w = 0
        · subst e
          rw [if_pos (show nI 0 = 0 from rfl), if_pos rfl]
        · rw [if_neg (nI_n0 (by omega) (by omega)), if_neg e]
          cases u <;> rfl
      · unfold f_X11_odds
        rw [m_has hL.n2, hin, br_s, if_neg (by decide), w11_0_1, h2, br_s, if_neg (by decide), k0, br_s, o1', p0, br_s, hp5, ei, br_s]
      · unfold scrP at r
        by_cases e : k = 90
        · subst e
          rw [p1 i (r2 rfl), o2 _ _ (by omega), k1 i (r2 rfl)]
        · rw [p2 k i e, o2 k i (by omega), k2 k i (by omega)]
