theorem apM_s (mb mh a : Nat → Nat) (i j : Nat) : apM mb mh a (i + 1) j = if j = mb i then mh i else apM mb mh a i j := rfl
theorem apM_9 {mb mh a : Nat → Nat} : ∀ i, (∀ j, j < 8 → a j ≤ 9) → (∀ j, j < i → mh j ≤ 9) → ∀ j, j < 8 → apM mb mh a i j ≤ 9
  | 0, h, _, j, hj => h j hj
  | i + 1, h, h2, j, hj => by
    have := apM_9 (mb := mb) i h (fun j hj => h2 j (by omega)) j hj
    have := h2 i (by omega)
    rw [apM_s]
    split <;> omega
theorem apM_out {mb mh a : Nat → Nat} {n : Nat} : ∀ i, (∀ j, j < i → mb j < n) → ∀ j, n ≤ j → apM mb mh a i j = a j
  | 0, _, j, _ => rfl
  | i + 1, h, j, hj => by
    have := h i (by omega)
    rw [apM_s, if_neg (by omega)]
    exact apM_out i (fun j hj => h j (by omega)) j hj
theorem c_ap {m : Nat} (hm : m ≤ 20) {mb mh a : Nat → Nat} (hb : ∀ k, k < m → mb k < 8) : ∀ (d i fuel : Nat) (M : MM), M 65 2 = nI m → (∀ k, k < m → M 66 k = nI (mb k) ∧ M 67 k = nI (mh k)) → (∀ j, j < 8 → M 70 j = nI (apM mb mh a i j)) → i + d = m → d < fuel → ∃ (Ma : MM) (f : Nat), g_X10_doMoves_28 fuel M (nI i) = g_X10_doMoves_28 (f + 1) Ma (nI m) ∧ (∀ k j, k ≠ 70 → Ma k j = M k j) ∧ ∀ j, j < 8 → Ma 70 j = nI (apM mb mh a m j) := by
  intro d
  induction d with
  | zero =>
    intro i fuel M h1 h2 h3 h4 h5
    obtain ⟨f, rfl⟩ : ∃ f, fuel = f + 1 := ⟨fuel - 1, by omega⟩
    obtain rfl : i = m := by omega
    exact ⟨M, f, rfl, fun _ _ _ => rfl, h3⟩
  | succ d ih =>
    intro i fuel M h1 h2 h3 h4 h5
    obtain ⟨f, rfl⟩ : ∃ f, fuel = f + 1 := ⟨fuel - 1, by omega⟩
    obtain ⟨a1, a2⟩ := h2 i (by omega)
    have b1 := hb i (by omega)
    rw [g_X10_doMoves_28, h1, if_neg (nI_ge (by omega) (by omega)), if_pos (ib_ok (by omega) (by omega)), if_pos (ib_ok (by omega) (by omega)), nI_clamp (by omega), a1, a2, if_pos (ib_ok b1 (by omega)), nI_clamp (by omega), nm_eq, show nI i + (1 : Int32) = nI (i + 1) from nI_1 _]
    obtain ⟨Ma, f', e1, e2, e3⟩ := ih (i + 1) f (up2 M 70 (mb i) (nI (mh i))) (by rw [up2_of (by omega)]; exact h1) (fun k hk => by rw [up2_of (by omega), up2_of (by omega)]; exact h2 k hk) (fun j hj => by
      rw [apM_s]
      by_cases e : j = mb i
      · rw [if_pos e, e, up2_at]
      · rw [if_neg e, up2_of (by omega)]; exact h3 j hj) (by omega) (by omega)
    exact ⟨Ma, f', e1, fun k j r => by rw [e2 k j r, up2_of (by omega)], e3⟩
theorem c_do {M : MM} {n : Nat} {kd ld br ht dr : Nat → Nat} {hd tr : Nat} (h : CLo M n kd ld br ht dr hd tr) (R : Rng n kd ld br ht dr hd tr) {m : Nat} (hm : m ≤ 20) {mb mh : Nat → Nat} (h1 : M 65 2 = nI m) (h2 : ∀ k, k < m → mb k < 8 ∧ mh k ≤ 9 ∧ M 66 k = nI (mb k) ∧ M 67 k = nI (mh k)) {p q : Nat} (hp : p ≤ 8) (hq : q < 8) (p1 : M 27 1 = nI p) (p2 : M 27 2 = nI q) : ∃ r : Bool, (r = true ↔ CAN n (pl kd ld br) dr ht (apM mb mh ht m) hd) ∧ ∃ M1 : MM, f_X10_doMoves M = some (if r = true then nI (bmx ht (apM mb mh ht m) n) else -3, M1) ∧ (r = false → ∀ k j, k ≠ 70 → M1 k j = M k j) ∧ (r = true → M1 27 1 = nI (if p < 8 then p + 1 else 8) ∧ M1 27 2 = nI ((q + 1) % 8) ∧ (∀ j, j < 8 → M1 (29 + 4 * q + 1) j = M 24 j ∧ M1 (29 + 4 * q + 2) j = M 25 j ∧ M1 (29 + 4 * q + 3) j = M 26 j) ∧ M1 (29 + 4 * q) 3 = M 23 3 ∧ (∀ j, j < 8 → M1 26 j = nI (apM mb mh ht m j)) ∧ ∀ k j, k ≠ 70 → k ≠ 26 → ¬ (k = 27 ∧ (j = 1 ∨ j = 2)) → (k < 29 + 4 * q ∨ 29 + 4 * q + 3 < k) → M1 k j = M k j) := by
  have n8 := R.1
  have hH : ∀ i, i < 8 → M 26 i = nI (ht i) ∧ ht i ≤ 9 := fun i hi => ⟨h.2.2.2.2.2.1 i hi, (R.2.1 i hi).2.2.2.1⟩
  unfold f_X10_doMoves
  rw [if_pos cp8, nm_eq]
  generalize eMb : upR M 70 _ = Mb
  have ub : ∀ k j, k ≠ 70 → Mb k j = M k j := fun k j r => by rw [← eMb, upR_ne r]
  obtain ⟨Ma, f, e1, e2, e3⟩ := c_ap hm (mb := mb) (mh := mh) (a := ht) (fun k hk => (h2 k hk).1) m 0 FU Mb (by rw [ub _ _ (by omega)]; exact h1) (fun k hk => by rw [ub _ _ (by omega), ub _ _ (by omega)]; exact (h2 k hk).2.2) (fun j hj => by rw [← eMb, upR_at, cpz _ _ hj]; exact (hH j hj).1) (by omega) (by have := FU_eq; omega)
  have ua : ∀ k j, k ≠ 70 → Ma k j = M k j := fun k j r => by rw [e2 k j r, ub k j r]
  have e1' : g_X10_doMoves_28 FU Mb 0 = g_X10_doMoves_28 (f + 1) Ma (nI m) := e1
  have hA : CLo Ma n kd ld br ht dr hd tr := h.cong (fun k j _ r => ua k j (by unfold relLo at r; omega))
  have hHa : ∀ i, i < 8 → Ma 26 i = nI (ht i) ∧ ht i ≤ 9 := fun i hi => ⟨by rw [ua _ _ (by omega)]; exact (hH i hi).1, (hH i hi).2⟩
  have hBa : ∀ i, i < 8 → Ma 70 i = nI (apM mb mh ht m i) ∧ apM mb mh ht m i ≤ 9 := fun i hi => ⟨e3 i hi, apM_9 m (fun j hj => (hH j hj).2) (fun j hj => (h2 j hj).2.1) i hi⟩
  obtain ⟨r, r1, r2⟩ := c_canBe hA R hHa hBa (H := hd) (by have := R.2.2.1; omega)
  refine ⟨r, r1, ?_⟩
  rw [e1', g_X10_doMoves_28, ua 65 2 (by omega), h1, if_pos (nI_le (Nat.le_refl m) (by omega)), ua 23 4 (by omega), h.2.2.2.2.2.2.1, r2, br_s]
  cases r with
  | false =>
    refine ⟨Ma, ?_, fun _ => ua, fun z => (by cases z)⟩
    rw [if_pos (show b2i false = 0 from rfl), if_neg (by decide)]
  | true =>
    have eb : f_X1_beats Ma 26 70 = some (nI (bmx ht (apM mb mh ht m) n)) := c_beat n8 hA.1 hHa hBa n 0 FU (by omega) (by have := FU_eq; omega)
    obtain ⟨Mc, ec, c1, c2, c3, c4, c5⟩ := c_rem Ma hp hq (by rw [ua _ _ (by omega)]; exact p1) (by rw [ua _ _ (by omega)]; exact p2)
    rw [if_neg (by decide), eb, br_s, ec, br_s, if_pos cp8, nm_eq, if_pos rfl]
    refine ⟨_, rfl, fun z => (by cases z), fun _ => ?_⟩
    generalize eMd : upR Mc 26 _ = Md
    have ud : ∀ k j, k ≠ 26 → Md k j = Mc k j := fun k j r => by rw [← eMd, upR_ne r]
    refine ⟨by rw [ud _ _ (by omega)]; exact c1, by rw [ud _ _ (by omega)]; exact c2, fun j hj => ?_, ?_, fun j hj => ?_, fun k j g1 g2 g3 g4 => ?_⟩
    · rw [ud _ _ (by omega), ud _ _ (by omega), ud _ _ (by omega)]
      obtain ⟨x1, x2, x3⟩ := c3 j hj
      rw [x1, x2, x3, ua _ _ (by omega), ua _ _ (by omega), ua _ _ (by omega)]
      exact ⟨rfl, rfl, rfl⟩
    · rw [ud _ _ (by omega), c4, ua _ _ (by omega)]
    · rw [← eMd, upR_at, cpz _ _ hj, c5 70 j (by omega) (by omega)]
      exact e3 j hj
    · rw [ud k j g2, c5 k j g3 g4, ua k j g1]
theorem m_do {M : MM} {n : Nat} {kd ld br ht dr : Nat → Nat} {hd tr : Nat} (h : MLo M n kd ld br ht dr hd tr) (R : Rng n kd ld br ht dr hd tr) (hn : 1 ≤ n) {b : Nat → Nat} (hb : ∀ i, i < n → M 93 i = nI (b i) ∧ b i ≤ 9) {p : Nat} (hp : p ≤ 8) (p1 : M 83 21 = nI p) : ∃ r : Bool, (r = true ↔ CAN n (pl kd ld br) dr ht b hd) ∧ ∃ M2 : MM, f_X11_doCue M = some (if r = true then nI (bmx ht b n) else -3, M2) ∧ (r = false → M2 = M) ∧ (r = true → M2 83 21 = nI (if p < 8 then p + 1 else 8) ∧ (∀ j, j < 8 → M2 94 (25 * (if p < 8 then p else 7) + j) = M 90 j ∧ M2 94 (25 * (if p < 8 then p else 7) + 8 + j) = M 88 j ∧ M2 94 (25 * (if p < 8 then p else 7) + 16 + j) = M 89 j) ∧ M2 94 (25 * (if p < 8 then p else 7) + 24) = M 83 8 ∧ (∀ a, a < 25 * (if p < 8 then p else 7) → M2 94 a = M 94 (if p < 8 then a else a + 25)) ∧ (∀ j, j < n → M2 90 j = nI (b j)) ∧ ∀ k a, k ≠ 94 → ¬ (k = 83 ∧ a = 21) → ¬ (k = 90 ∧ a < n) → M2 k a = M k a) := by
  have n8 := R.1
  have hH : ∀ i, i < 8 → M 90 i = nI (ht i) ∧ ht i ≤ 9 := fun i hi => ⟨h.2.2.2.2.2.1 i hi, (R.2.1 i hi).2.2.2.1⟩
  obtain ⟨r, r1, r2⟩ := m_canBe h R hn hb
  refine ⟨r, r1, ?_⟩
  unfold f_X11_doCue
  rw [r2, br_s]
  cases r with
  | false =>
    refine ⟨M, ?_, fun _ => rfl, fun z => (by cases z)⟩
    rw [if_pos (show b2i false = 0 from rfl), if_neg (by decide)]
  | true =>
    have eb : f_X11_beats M = some (nI (bmx ht b n)) := m_beat n8 h.1 hH hb n 0 FU (by omega) (by have := FU_eq; omega)
    obtain ⟨Mm, em, m1, m2, m3, m4, m5⟩ := m_rem M hp p1
    obtain ⟨Mg, g0, g1, g2⟩ := m_goesN (M := Mm) n8 (by rw [m5 _ _ (by omega) (by omega)]; exact h.1)
    rw [if_neg (by decide), eb, br_s, em, br_s, g0, br_s, if_pos rfl]
    refine ⟨Mg, rfl, fun z => (by cases z), fun _ => ⟨by rw [g2 _ _ (by omega)]; exact m1, fun j hj => ?_, by rw [g2 _ _ (by omega)]; exact m3, fun a ha => by rw [g2 _ _ (by omega)]; exact m4 a ha, fun j hj => ?_, fun k a q1 q2 q3 => by rw [g2 k a q3, m5 k a q1 q2]⟩⟩
    · rw [g2 _ _ (by omega), g2 _ _ (by omega), g2 _ _ (by omega)]; exact m2 j hj
    · rw [g1 j hj, m5 _ _ (by omega) (by omega)]; exact (hb j hj).1
/-- both sides do moves as one cue -/
theorem do_both {M0 M' : MM} {n : Nat} {kd ld br ht dr : Nat → Nat} {hd tr : Nat} (hL : LoI M0 n kd ld br ht dr hd tr) (hS : MsI M0) (h3 : ShI M0) (h4 : PsI M0) (h5 : ImI M0) (h6 : RdI M0 n) (hn : n ≠ 0) (A : ∀ k j, k < 83 → M' k j = M0 k j) {m : Nat} (hm : m ≤ 20) {mb mh : Nat → Nat} (h1 : M' 65 2 = nI m) (h2 : ∀ k, k < m → mb k < n ∧ mh k ≤ 9 ∧ M' 66 k = nI (mb k) ∧ M' 67 k = nI (mh k)) : ∃ (r : Int32) (M1 : MM), f_X10_doMoves M' = some (r, M1) ∧ (∀ k j, 83 ≤ k → M1 k j = M' k j) ∧ ∀ Mr : MM, (∀ k j, k < 83 → Mr k j = M1 k j) → (∀ k j, 83 ≤ k → k ≠ 93 → Mr k j = M0 k j) → (∀ j, j < n → Mr 93 j = nI (apM mb mh ht m j)) → ∃ M2, f_X11_doCue Mr = some (r, M2) ∧ Inv M2 := by
  have n8 := hL.n8
  obtain ⟨p, q, hp, hq, p3, p4, p5, old⟩ := id h4
  obtain ⟨rc, rc1, M1, ec, cF, cT⟩ := c_do (M := M') (hL.1.cong (fun k j g _ => A k j g)) hL.2.2.1 hm h1 (fun k hk => ⟨by have := (h2 k hk).1; omega, (h2 k hk).2⟩) hp hq (by rw [A _ _ (by omega)]; exact p3) (by rw [A _ _ (by omega)]; exact p4)
  have hi83 : ∀ k j, 83 ≤ k → M1 k j = M' k j := fun k j hk => by
    cases rc with
    | false => exact cF rfl k j (by omega)
    | true => exact (cT rfl).2.2.2.2.2 k j (by omega) (by omega) (by omega) (by omega)
  refine ⟨_, M1, ec, hi83, fun Mr r1 r2 r3 => ?_⟩
  have ha9 : ∀ j, j < 8 → apM mb mh ht m j ≤ 9 := apM_9 m (fun j hj => (hL.rg hj).2.2.2.1) (fun j hj => (h2 j hj).2.1)
  obtain ⟨rm, rm1, M2, em, mF, mT⟩ := m_do (M := Mr) (hL.2.1.cong (fun k j g r => r2 k j g (by unfold relLo at r; omega))) hL.2.2.1 (by omega) (b := apM mb mh ht m) (fun i hi => ⟨r3 i hi, ha9 i (by omega)⟩) hp (by rw [r2 _ _ (by omega) (by omega)]; exact p5)
  have err : rm = rc := by
    cases rc <;> cases rm <;> simp_all
  subst err
  refine ⟨M2, em, ?_⟩
  cases rm with
  | false =>
    have e2 := mF rfl
    subst e2
    refine Inv.scr (M := M0) ⟨n, kd, ld, br, ht, dr, hd, tr, hL, hS, h3, h4, h5, h6⟩ (fun k j r => ?_)
    unfold scrP at r
    by_cases hk : k < 83
    · rw [r1 k j hk, cF rfl k j (by omega), A k j hk]
    · exact r2 k j (by omega) (by omega)
  | true =>
    obtain ⟨c1, c2, c3, c4, c5, c6⟩ := cT rfl
    obtain ⟨m1, m2, m3, m4, m5, m6⟩ := mT rfl
    have lo : ∀ k j, k < 83 → M2 k j = M1 k j := fun k j hk => by rw [m6 k j (by omega) (by omega) (by omega), r1 k j hk]
    have hi : ∀ k j, 83 ≤ k → k ≠ 93 → k ≠ 94 → ¬ (k = 83 ∧ j = 21) → ¬ (k = 90 ∧ j < n) → M2 k j = M0 k j := fun k j a1 a2 a3 a4 a5 => by rw [m6 k j a3 a4 a5, r2 k j a1 a2]
    refine fin_rem (ld' := ld) (br' := br) (ht' := apM mb mh ht m) hL hS h3 h5 h6 hp hq old (fun k j z1 z2 z3 z4 z5 z6 => ?_) (fun j hj => ?_) (fun j hj => ?_) (fun j hj => ?_) ?_ ?_ ?_ (fun j hj => ?_) ?_ (fun k j k1 k2 k3 => ?_) ?_ (fun j hj => ?_) ?_ (fun x hx => ?_)
    · unfold relPs at z1
      unfold scrP at z6
      by_cases hk : k < 83
      · rw [lo k j hk, c6 k j (by omega) (by omega) (by omega) (by omega), A k j hk]
      · exact hi k j (by omega) (by omega) (by omega) (by omega) (by omega)
    · rw [lo _ _ (by omega), c6 24 j (by omega) (by omega) (by omega) (by omega), A _ _ (by omega), hi 88 j (by omega) (by omega) (by omega) (by omega) (by omega)]
      exact ⟨hL.lC hj, hL.lM hj, (hL.rg hj).2.1⟩
    · rw [lo _ _ (by omega), c6 25 j (by omega) (by omega) (by omega) (by omega), A _ _ (by omega), hi 89 j (by omega) (by omega) (by omega) (by omega) (by omega)]
      exact ⟨hL.bC hj, hL.bM hj, (hL.rg hj).2.2.1⟩
    · refine ⟨by rw [lo _ _ (by omega)]; exact c5 j hj, ?_, ha9 j hj⟩
      by_cases hjn : j < n
      · exact m5 j hjn
      · rw [hi 90 j (by omega) (by omega) (by omega) (by omega) (by omega), apM_out m (n := n) (fun k hk => (h2 k hk).1) j (by omega)]
        exact hL.hM hj
    · rw [lo _ _ (by omega), c6 23 3 (by omega) (by omega) (by omega) (by omega), A _ _ (by omega), hi 83 8 (by omega) (by omega) (by omega) (by omega) (by omega)]
      exact hS.1
    · rw [lo _ _ (by omega)]; exact c1
    · rw [lo _ _ (by omega)]; exact c2
    · rw [lo _ _ (by omega), lo _ _ (by omega), lo _ _ (by omega), ← A 24 j (by omega), ← A 25 j (by omega), ← A 26 j (by omega)]; exact c3 j hj
    · rw [lo _ _ (by omega), c4, A _ _ (by omega)]
    · rw [lo _ _ (by omega), c6 k j (by omega) (by omega) (by omega) (by omega), A _ _ (by omega)]
    · exact m1
    · rw [← r2 90 j (by omega) (by omega), ← r2 88 j (by omega) (by omega), ← r2 89 j (by omega) (by omega)]; exact m2 j hj
    · rw [m3, r2 83 8 (by omega) (by omega)]
    · rw [m4 x hx, r2 94 _ (by omega) (by omega)]
