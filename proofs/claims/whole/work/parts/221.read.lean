-- readings: what they leave open
def arS (bk : Nat → Nat) (P : Nat → Nat) (F E : Nat → Int32) : Nat → Nat → Bool
  | 0, _ => true
  | d + 1, i => if nI (P (bk i)) * F i = E i then arS bk P F E d (i + 1) else false
theorem arS_s (bk P : Nat → Nat) (F E : Nat → Int32) (d i : Nat) : arS bk P F E (d + 1) i = if nI (P (bk i)) * F i = E i then arS bk P F E d (i + 1) else false := rfl
section ARE
variable {n : Nat} {kd ld br ht dr : Nat → Nat} {hd tr : Nat}
theorem m_are {M : MM} (h : MLo M n kd ld br ht dr hd tr) (R : Rng n kd ld br ht dr hd tr) {c : Nat} (hc : c ≤ 8) (h1 : M 83 35 = nI c) {bk : Nat → Nat} {F E : Nat → Int32} (h2 : ∀ i, i < c → bk i < n ∧ M 103 i = nI (bk i) ∧ M 104 i = F i ∧ M 105 i = E i) : ∀ (d i fuel : Nat), i + d = c → d < fuel → g_X11_areSo_2 M fuel (nI i) = some (b2i (arS bk (pl kd ld br) F E d i)) := by
  have n8 := R.1
  intro d
  induction d with
  | zero =>
    intro i fuel h3 h4
    obtain ⟨f, rfl⟩ : ∃ f, fuel = f + 1 := ⟨fuel - 1, by omega⟩
    obtain rfl : i = c := by omega
    rw [g_X11_areSo_2, h1, if_pos (nI_le (Nat.le_refl i) (by omega))]
    rfl
  | succ d ih =>
    intro i fuel h3 h4
    obtain ⟨f, rfl⟩ : ∃ f, fuel = f + 1 := ⟨fuel - 1, by omega⟩
    obtain ⟨b1, b2, b3, b4⟩ := h2 i (by omega)
    have bo := ib_ok (show i < 8 by omega) (show 8 ≤ 2 ^ 31 by omega)
    rw [g_X11_areSo_2, h1, if_neg (nI_ge (by omega) (by omega)), if_pos bo, nI_clamp (by omega), b2, m_pull h R (by omega), br_s, if_pos bo, if_pos bo, b3, b4, show nI i + (1 : Int32) = nI (i + 1) from nI_1 i, ih (i + 1) f (by omega) (by omega), arS_s]
    by_cases q : nI (pl kd ld br (bk i)) * F i = E i
    · rw [if_pos q]
      exact if_pos q
    · rw [if_neg q]
      exact if_neg q
theorem c_are {M : MM} (h : CLo M n kd ld br ht dr hd tr) (R : Rng n kd ld br ht dr hd tr) {c b p : Nat} (hc : c ≤ 8) (hb : b < 8) (h1 : M 61 3 = nI c) {bk : Nat → Nat} {F E : Nat → Int32} (h2 : ∀ i, i < c → bk i < n ∧ M 62 i = nI (bk i) ∧ M 63 i = F i ∧ M 64 i = E i) : ∀ (d i fuel : Nat), i + d = c → d < fuel → g_X5_areSo_3 M fuel (nI b) (nI p) (nI i) = some (b2i (arS bk (upf (pl kd ld br) b p) F E d i)) := by
  have n8 := R.1
  intro d
  induction d with
  | zero =>
    intro i fuel h3 h4
    obtain ⟨f, rfl⟩ : ∃ f, fuel = f + 1 := ⟨fuel - 1, by omega⟩
    obtain rfl : i = c := by omega
    rw [g_X5_areSo_3, h1, if_pos (nI_le (Nat.le_refl i) (by omega))]
    rfl
  | succ d ih =>
    intro i fuel h3 h4
    obtain ⟨f, rfl⟩ : ∃ f, fuel = f + 1 := ⟨fuel - 1, by omega⟩
    obtain ⟨b1, b2, b3, b4⟩ := h2 i (by omega)
    have bo := ib_ok (show i < 8 by omega) (show 8 ≤ 2 ^ 31 by omega)
    have key : ∀ s0 : Nat, s0 = upf (pl kd ld br) b p (bk i) → g_X5_areSo_38 M (g_X5_areSo_3 M f) (nI b) (nI p) (nI i) (nI s0) = some (b2i (arS bk (upf (pl kd ld br) b p) F E (d + 1) i)) := by
      intro s0 hs
      unfold g_X5_areSo_38
      rw [if_pos bo, if_pos bo, nI_clamp (by omega), b3, b4, show nI i + (1 : Int32) = nI (i + 1) from nI_1 i, ih (i + 1) f (by omega) (by omega), arS_s, hs]
      by_cases q : nI (upf (pl kd ld br) b p (bk i)) * F i = E i
      · rw [if_pos q, if_pos q]
      · rw [if_neg q, if_neg q]
        rfl
    rw [g_X5_areSo_3, h1, if_neg (nI_ge (by omega) (by omega)), if_pos bo, if_pos bo, nI_clamp (by omega), b2]
    by_cases q : bk i = b
    · rw [if_pos (by rw [q])]
      exact key p (by rw [q, upf_at])
    · rw [if_neg (fun z => q (nI_inj (by omega) (by omega) z)), c_pull h R (by omega), br_s]
      exact key _ (by rw [upf_ne _ _ q]; rfl)
theorem arS_cg {bk P Q : Nat → Nat} {F E : Nat → Int32} (h : ∀ x, P x = Q x) : ∀ (d i : Nat), arS bk P F E d i = arS bk Q F E d i := by
  intro d i
  rw [show P = Q from funext h]
end ARE
theorem loads_L {n : Nat} {kd ld br ht dr : Nat → Nat} {hd tr : Nat} {M : MM} (hL : LoI M n kd ld br ht dr hd tr) {c b : Nat} (hc : c ≤ 8) (hb : b < 8) (h61 : M 61 3 = nI c) (h83 : M 83 35 = nI c) {bk : Nat → Nat} {F E : Nat → Int32} (hr : ∀ i, i < c → bk i < n ∧ M 62 i = nI (bk i) ∧ M 63 i = F i ∧ M 64 i = E i ∧ M 103 i = nI (bk i) ∧ M 104 i = F i ∧ M 105 i = E i) : ∀ (d v f1 f2 : Nat) (acc : Int32) (Mr : MM), v + d = 10 → d < f1 → d < f2 → (∀ k j, ¬ (k = 88 ∧ j = b) → Mr k j = M k j) → ∃ r : Int32, g_X10_loads_17 M f1 (nI b) acc (nI v) = some r ∧ g_X11_loads_22 f2 Mr (nI b) (nI (ld b)) acc (nI v) = some (r, M) := by
  have bo := ib_ok hb (show 8 ≤ 2 ^ 31 by omega)
  have cl := nI_clamp (show b < 2 ^ 31 by omega)
  obtain ⟨r1, r2, r3, r4, r5⟩ := hL.rg hb
  intro d
  induction d with
  | zero =>
    intro v f1 f2 acc Mr h1 h2 h3 ag
    obtain ⟨f1, rfl⟩ : ∃ f, f1 = f + 1 := ⟨f1 - 1, by omega⟩
    obtain ⟨f2, rfl⟩ : ∃ f, f2 = f + 1 := ⟨f2 - 1, by omega⟩
    obtain rfl : v = 10 := by omega
    rw [g_X10_loads_17, if_pos (show (9 : Int32) < nI 10 by decide), g_X11_loads_22, if_pos (show (9 : Int32) < nI 10 by decide), if_pos bo, cl, nm_eq, MM.same ag (hL.lM hb).symm]
    exact ⟨acc, rfl, rfl⟩
  | succ d ih =>
    intro v f1 f2 acc Mr h1 h2 h3 ag
    obtain ⟨f1, rfl⟩ : ∃ f, f1 = f + 1 := ⟨f1 - 1, by omega⟩
    obtain ⟨f2, rfl⟩ : ∃ f, f2 = f + 1 := ⟨f2 - 1, by omega⟩
    have nx : nI v + (1 : Int32) = nI (v + 1) := nI_1 v
    rw [g_X10_loads_17, g_X11_loads_22, if_neg (show ¬ (9 : Int32) < nI v from nI_nlt (a := 9) (by omega) (by omega)), if_neg (show ¬ (9 : Int32) < nI v from nI_nlt (a := 9) (by omega) (by omega)), if_pos bo, if_pos bo, if_pos bo, cl, nx, hL.kC hb, hL.bC hb, p10 M r1 (show v ≤ 9 by omega) r3, br_s]
    generalize eM8 : up2 Mr 88 b (nI v) = M8
    have u8 : ∀ k j, ¬ (k = 88 ∧ j = b) → M8 k j = M k j := fun k j r => by rw [← eM8, up2_of r, ag k j r]
    have ec : f_X5_areSo M (nI b) (nI (pullN (kd b) v (br b))) = some (b2i (arS bk (upf (pl kd ld br) b (pullN (kd b) v (br b))) F E c 0)) := c_are hL.1 hL.2.2.1 hc hb h61 (fun i hi => ⟨(hr i hi).1, (hr i hi).2.1, (hr i hi).2.2.1, (hr i hi).2.2.2.1⟩) c 0 FU (by omega) (by have := FU_eq; omega)
    have em : f_X11_areSo M8 = some (b2i (arS bk (pl kd (upf ld b v) br) F E c 0)) := m_are (hL.2.1.set88 u8 (by rw [← eM8, up2_at])) (hL.2.2.1.s88 (by omega)) hc (by rw [u8 _ _ (by omega)]; exact h83) (fun i hi => ⟨(hr i hi).1, by rw [u8 _ _ (by omega)]; exact (hr i hi).2.2.2.2.1, by rw [u8 _ _ (by omega)]; exact (hr i hi).2.2.2.2.2.1, by rw [u8 _ _ (by omega)]; exact (hr i hi).2.2.2.2.2.2⟩) c 0 FU (by omega) (by have := FU_eq; omega)
    have ep : ∀ x, pl kd (upf ld b v) br x = upf (pl kd ld br) b (pullN (kd b) v (br b)) x := fun x => by
      by_cases q : x = b
      · rw [q, upf_at]
        show pullN _ _ _ = _
        try rw [upf_at]
      · rw [upf_ne _ _ q]
        show pullN _ _ _ = pullN _ _ _
        rw [upf_ne _ _ q]
    rw [arS_cg ep] at em
    simp only [nm_eq]
    rw [ec, em, br_s, br_s]
    have go : ∀ a2 : Int32, ∃ r : Int32, g_X10_loads_17 M f1 (nI b) a2 (nI (v + 1)) = some r ∧ g_X11_loads_22 f2 M8 (nI b) (nI (ld b)) a2 (nI (v + 1)) = some (r, M) := fun a2 => ih (v + 1) f1 f2 a2 M8 (by omega) (by omega) (by omega) u8
    cases arS bk (upf (pl kd ld br) b (pullN (kd b) v (br b))) F E c 0 with
    | false =>
      rw [if_pos (show b2i false = 0 from rfl), if_pos (show b2i false = 0 from rfl)]
      exact go _
    | true =>
      rw [if_neg (show ¬ b2i true = 0 by decide), if_neg (show ¬ b2i true = 0 by decide)]
      exact go _
theorem s_loads : St_loads Inv := by
  intro M h a1
  obtain ⟨n, kd, ld, br, ht, dr, hd, tr, hL, hS, h3, h4, h5, ⟨c, c1, c2, c3, c4⟩⟩ := id h
  have n8 := hL.n8
  cases hin : hb n a1 with
  | false => exact ⟨-1, M, by simp [f_X10_loads, c_has hL.n1, hin, br_s, b2i0], by simp [f_X11_loads, m_has hL.n2, hin, br_s, b2i0], h⟩
  | true =>
    obtain ⟨j, hj, rfl⟩ := hb_yes (by omega) hin
    obtain ⟨r, e1, e2⟩ := loads_L hL (b := j) c1 (by omega) c2 c3 (bk := fun i => (M 62 i).toNatClampNeg) (F := M 63) (E := M 64) (fun i hi => by
      obtain ⟨x1, ⟨b, x2, x3⟩, x4, x5⟩ := c4 i hi
      try dsimp only
      rw [← x1, ← x4, ← x5, x3, nI_clamp (by omega)]
      exact ⟨x2, rfl, rfl, rfl, rfl, rfl, rfl⟩) 10 0 FU FU 0 M (by omega) (by have := FU_eq; omega) (by have := FU_eq; omega) (fun _ _ _ => rfl)
    refine ⟨r, M, ?_, ?_, h⟩
    · unfold f_X10_loads
      rw [c_has hL.n1, hin, br_s, if_neg (by decide)]
      exact e1
    · unfold f_X11_loads
      rw [m_has hL.n2, hin, br_s, if_neg (by decide), if_pos (ib_ok (by omega) (by omega)), nI_clamp (by omega), hL.lM (by omega), nm_eq]
      exact e2
theorem weights_L {n : Nat} {kd ld br ht dr : Nat → Nat} {hd tr : Nat} {M : MM} (hL : LoI M n kd ld br ht dr hd tr) {c b : Nat} (hc : c ≤ 8) (hb : b < 8) (h61 : M 61 3 = nI c) (h83 : M 83 35 = nI c) {bk : Nat → Nat} {F E : Nat → Int32} (hr : ∀ i, i < c → bk i < n ∧ M 62 i = nI (bk i) ∧ M 63 i = F i ∧ M 64 i = E i ∧ M 103 i = nI (bk i) ∧ M 104 i = F i ∧ M 105 i = E i) : ∀ (d v f1 f2 : Nat) (acc : Int32) (Mr : MM), v + d = 10 → d < f1 → d < f2 → (∀ k j, ¬ (k = 89 ∧ j = b) → Mr k j = M k j) → ∃ r : Int32, g_X10_weights_17 M f1 (nI b) acc (nI v) = some r ∧ g_X11_weights_22 f2 Mr (nI b) (nI (br b)) acc (nI v) = some (r, M) := by
  have bo := ib_ok hb (show 8 ≤ 2 ^ 31 by omega)
  have cl := nI_clamp (show b < 2 ^ 31 by omega)
  obtain ⟨r1, r2, r3, r4, r5⟩ := hL.rg hb
  intro d
  induction d with
  | zero =>
    intro v f1 f2 acc Mr h1 h2 h3 ag
    obtain ⟨f1, rfl⟩ : ∃ f, f1 = f + 1 := ⟨f1 - 1, by omega⟩
    obtain ⟨f2, rfl⟩ : ∃ f, f2 = f + 1 := ⟨f2 - 1, by omega⟩
    obtain rfl : v = 10 := by omega
    rw [g_X10_weights_17, if_pos (show (9 : Int32) < nI 10 by decide), g_X11_weights_22, if_pos (show (9 : Int32) < nI 10 by decide), if_pos bo, cl, nm_eq, MM.same ag (hL.bM hb).symm]
    exact ⟨acc, rfl, rfl⟩
  | succ d ih =>
    intro v f1 f2 acc Mr h1 h2 h3 ag
    obtain ⟨f1, rfl⟩ : ∃ f, f1 = f + 1 := ⟨f1 - 1, by omega⟩
    obtain ⟨f2, rfl⟩ : ∃ f, f2 = f + 1 := ⟨f2 - 1, by omega⟩
    have nx : nI v + (1 : Int32) = nI (v + 1) := nI_1 v
    rw [g_X10_weights_17, g_X11_weights_22, if_neg (show ¬ (9 : Int32) < nI v from nI_nlt (a := 9) (by omega) (by omega)), if_neg (show ¬ (9 : Int32) < nI v from nI_nlt (a := 9) (by omega) (by omega)), if_pos bo, if_pos bo, if_pos bo, cl, nx, hL.kC hb, hL.lC hb, p10 M r1 r2 (show v ≤ 9 by omega), br_s]
    generalize eM8 : up2 Mr 89 b (nI v) = M8
    have u8 : ∀ k j, ¬ (k = 89 ∧ j = b) → M8 k j = M k j := fun k j r => by rw [← eM8, up2_of r, ag k j r]
    have ec : f_X5_areSo M (nI b) (nI (pullN (kd b) (ld b) v)) = some (b2i (arS bk (upf (pl kd ld br) b (pullN (kd b) (ld b) v)) F E c 0)) := c_are hL.1 hL.2.2.1 hc hb h61 (fun i hi => ⟨(hr i hi).1, (hr i hi).2.1, (hr i hi).2.2.1, (hr i hi).2.2.2.1⟩) c 0 FU (by omega) (by have := FU_eq; omega)
    have em : f_X11_areSo M8 = some (b2i (arS bk (pl kd ld (upf br b v)) F E c 0)) := m_are (hL.2.1.set89 u8 (by rw [← eM8, up2_at])) (hL.2.2.1.s89 (by omega)) hc (by rw [u8 _ _ (by omega)]; exact h83) (fun i hi => ⟨(hr i hi).1, by rw [u8 _ _ (by omega)]; exact (hr i hi).2.2.2.2.1, by rw [u8 _ _ (by omega)]; exact (hr i hi).2.2.2.2.2.1, by rw [u8 _ _ (by omega)]; exact (hr i hi).2.2.2.2.2.2⟩) c 0 FU (by omega) (by have := FU_eq; omega)
    have ep : ∀ x, pl kd ld (upf br b v) x = upf (pl kd ld br) b (pullN (kd b) (ld b) v) x := fun x => by
      by_cases q : x = b
      · rw [q, upf_at]
        show pullN _ _ _ = _
        try rw [upf_at]
      · rw [upf_ne _ _ q]
        show pullN _ _ _ = pullN _ _ _
        rw [upf_ne _ _ q]
    rw [arS_cg ep] at em
    simp only [nm_eq]
    rw [ec, em, br_s, br_s]
    have go : ∀ a2 : Int32, ∃ r : Int32, g_X10_weights_17 M f1 (nI b) a2 (nI (v + 1)) = some r ∧ g_X11_weights_22 f2 M8 (nI b) (nI (br b)) a2 (nI (v + 1)) = some (r, M) := fun a2 => ih (v + 1) f1 f2 a2 M8 (by omega) (by omega) (by omega) u8
    cases arS bk (upf (pl kd ld br) b (pullN (kd b) (ld b) v)) F E c 0 with
    | false =>
      rw [if_pos (show b2i false = 0 from rfl), if_pos (show b2i false = 0 from rfl)]
      exact go _
    | true =>
      rw [if_neg (show ¬ b2i true = 0 by decide), if_neg (show ¬ b2i true = 0 by decide)]
      exact go _
theorem s_weights : St_weights Inv := by
  intro M h a1
  obtain ⟨n, kd, ld, br, ht, dr, hd, tr, hL, hS, h3, h4, h5, ⟨c, c1, c2, c3, c4⟩⟩ := id h
  have n8 := hL.n8
  cases hin : hb n a1 with
  | false => exact ⟨-1, M, by simp [f_X10_weights, c_has hL.n1, hin, br_s, b2i0], by simp [f_X11_weights, m_has hL.n2, hin, br_s, b2i0], h⟩
  | true =>
    obtain ⟨j, hj, rfl⟩ := hb_yes (by omega) hin
    obtain ⟨r, e1, e2⟩ := weights_L hL (b := j) c1 (by omega) c2 c3 (bk := fun i => (M 62 i).toNatClampNeg) (F := M 63) (E := M 64) (fun i hi => by
      obtain ⟨x1, ⟨b, x2, x3⟩, x4, x5⟩ := c4 i hi
      try dsimp only
      rw [← x1, ← x4, ← x5, x3, nI_clamp (by omega)]
      exact ⟨x2, rfl, rfl, rfl, rfl, rfl, rfl⟩) 10 0 FU FU 0 M (by omega) (by have := FU_eq; omega) (by have := FU_eq; omega) (fun _ _ _ => rfl)
    refine ⟨r, M, ?_, ?_, h⟩
    · unfold f_X10_weights
      rw [c_has hL.n1, hin, br_s, if_neg (by decide)]
      exact e1
    · unfold f_X11_weights
      rw [m_has hL.n2, hin, br_s, if_neg (by decide), if_pos (ib_ok (by omega) (by omega)), nI_clamp (by omega), hL.bM (by omega), nm_eq]
      exact e2
theorem kinds_L {n : Nat} {kd ld br ht dr : Nat → Nat} {hd tr : Nat} {M : MM} (hL : LoI M n kd ld br ht dr hd tr) {c b : Nat} (hc : c ≤ 8) (hb : b < 8) (h61 : M 61 3 = nI c) (h83 : M 83 35 = nI c) {bk : Nat → Nat} {F E : Nat → Int32} (hr : ∀ i, i < c → bk i < n ∧ M 62 i = nI (bk i) ∧ M 63 i = F i ∧ M 64 i = E i ∧ M 103 i = nI (bk i) ∧ M 104 i = F i ∧ M 105 i = E i) : ∀ (d v f1 f2 : Nat) (acc : Int32) (Mr : MM), v + d = 3 → d < f1 → d < f2 → (∀ k j, ¬ (k = 87 ∧ j = b) → Mr k j = M k j) → ∃ r : Int32, g_X10_kinds_17 M f1 (nI b) acc (nI v) = some r ∧ g_X11_kinds_22 f2 Mr (nI b) (nI (kd b)) acc (nI v) = some (r, M) := by
  have bo := ib_ok hb (show 8 ≤ 2 ^ 31 by omega)
  have cl := nI_clamp (show b < 2 ^ 31 by omega)
  obtain ⟨r1, r2, r3, r4, r5⟩ := hL.rg hb
  intro d
  induction d with
  | zero =>
    intro v f1 f2 acc Mr h1 h2 h3 ag
    obtain ⟨f1, rfl⟩ : ∃ f, f1 = f + 1 := ⟨f1 - 1, by omega⟩
    obtain ⟨f2, rfl⟩ : ∃ f, f2 = f + 1 := ⟨f2 - 1, by omega⟩
    obtain rfl : v = 3 := by omega
    rw [g_X10_kinds_17, if_pos (show (2 : Int32) < nI 3 by decide), g_X11_kinds_22, if_pos (show (3 : Int32) ≤ nI 3 by decide), if_pos bo, cl, nm_eq, MM.same ag (hL.kM hb).symm]
    exact ⟨acc, rfl, rfl⟩
  | succ d ih =>
    intro v f1 f2 acc Mr h1 h2 h3 ag
    obtain ⟨f1, rfl⟩ : ∃ f, f1 = f + 1 := ⟨f1 - 1, by omega⟩
    obtain ⟨f2, rfl⟩ : ∃ f, f2 = f + 1 := ⟨f2 - 1, by omega⟩
    have nx : nI v + (1 : Int32) = nI (v + 1) := nI_1 v
    rw [g_X10_kinds_17, g_X11_kinds_22, if_neg (show ¬ (2 : Int32) < nI v from nI_nlt (a := 2) (by omega) (by omega)), if_neg (show ¬ (3 : Int32) ≤ nI v from nI_ge (b := 3) (by omega) (by omega)), if_pos bo, if_pos bo, if_pos bo, cl, nx, hL.lC hb, hL.bC hb, p10 M (show v ≤ 2 by omega) r2 r3, br_s]
    generalize eM8 : up2 Mr 87 b (nI v) = M8
    have u8 : ∀ k j, ¬ (k = 87 ∧ j = b) → M8 k j = M k j := fun k j r => by rw [← eM8, up2_of r, ag k j r]
    have ec : f_X5_areSo M (nI b) (nI (pullN v (ld b) (br b))) = some (b2i (arS bk (upf (pl kd ld br) b (pullN v (ld b) (br b))) F E c 0)) := c_are hL.1 hL.2.2.1 hc hb h61 (fun i hi => ⟨(hr i hi).1, (hr i hi).2.1, (hr i hi).2.2.1, (hr i hi).2.2.2.1⟩) c 0 FU (by omega) (by have := FU_eq; omega)
    have em : f_X11_areSo M8 = some (b2i (arS bk (pl (upf kd b v) ld br) F E c 0)) := m_are (hL.2.1.set87 u8 (by rw [← eM8, up2_at])) (hL.2.2.1.s87 (by omega)) hc (by rw [u8 _ _ (by omega)]; exact h83) (fun i hi => ⟨(hr i hi).1, by rw [u8 _ _ (by omega)]; exact (hr i hi).2.2.2.2.1, by rw [u8 _ _ (by omega)]; exact (hr i hi).2.2.2.2.2.1, by rw [u8 _ _ (by omega)]; exact (hr i hi).2.2.2.2.2.2⟩) c 0 FU (by omega) (by have := FU_eq; omega)
    have ep : ∀ x, pl (upf kd b v) ld br x = upf (pl kd ld br) b (pullN v (ld b) (br b)) x := fun x => by
      by_cases q : x = b
      · rw [q, upf_at]
        show pullN _ _ _ = _
        try rw [upf_at]
      · rw [upf_ne _ _ q]
        show pullN _ _ _ = pullN _ _ _
        rw [upf_ne _ _ q]
    rw [arS_cg ep] at em
    simp only [nm_eq]
    rw [ec, em, br_s, br_s]
    have go : ∀ a2 : Int32, ∃ r : Int32, g_X10_kinds_17 M f1 (nI b) a2 (nI (v + 1)) = some r ∧ g_X11_kinds_22 f2 M8 (nI b) (nI (kd b)) a2 (nI (v + 1)) = some (r, M) := fun a2 => ih (v + 1) f1 f2 a2 M8 (by omega) (by omega) (by omega) u8
    cases arS bk (upf (pl kd ld br) b (pullN v (ld b) (br b))) F E c 0 with
    | false =>
      rw [if_pos (show b2i false = 0 from rfl), if_pos (show b2i false = 0 from rfl)]
      exact go _
    | true =>
      rw [if_neg (show ¬ b2i true = 0 by decide), if_neg (show ¬ b2i true = 0 by decide)]
      exact go _
theorem s_kinds : St_kinds Inv := by
  intro M h a1
  obtain ⟨n, kd, ld, br, ht, dr, hd, tr, hL, hS, h3, h4, h5, ⟨c, c1, c2, c3, c4⟩⟩ := id h
  have n8 := hL.n8
  cases hin : hb n a1 with
  | false => exact ⟨-1, M, by simp [f_X10_kinds, c_has hL.n1, hin, br_s, b2i0], by simp [f_X11_kinds, m_has hL.n2, hin, br_s, b2i0], h⟩
  | true =>
    obtain ⟨j, hj, rfl⟩ := hb_yes (by omega) hin
    obtain ⟨r, e1, e2⟩ := kinds_L hL (b := j) c1 (by omega) c2 c3 (bk := fun i => (M 62 i).toNatClampNeg) (F := M 63) (E := M 64) (fun i hi => by
      obtain ⟨x1, ⟨b, x2, x3⟩, x4, x5⟩ := c4 i hi
      try dsimp only
      rw [← x1, ← x4, ← x5, x3, nI_clamp (by omega)]
      exact ⟨x2, rfl, rfl, rfl, rfl, rfl, rfl⟩) 3 0 FU FU 0 M (by omega) (by have := FU_eq; omega) (by have := FU_eq; omega) (fun _ _ _ => rfl)
    refine ⟨r, M, ?_, ?_, h⟩
    · unfold f_X10_kinds
      rw [c_has hL.n1, hin, br_s, if_neg (by decide)]
      exact e1
    · unfold f_X11_kinds
      rw [m_has hL.n2, hin, br_s, if_neg (by decide), if_pos (ib_ok (by omega) (by omega)), nI_clamp (by omega), hL.kM (by omega), nm_eq]
      exact e2
