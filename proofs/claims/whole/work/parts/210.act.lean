-- acts: moves one behind another
def efN (P a b : Nat → Nat) : Nat → Nat
  | 0 => 0
  | j + 1 => efN P a b j + P j * adN (a j) (b j)
theorem efN_s (P a b : Nat → Nat) (j : Nat) : efN P a b (j + 1) = efN P a b j + P j * adN (a j) (b j) := rfl
theorem bmx_s (a b : Nat → Nat) (j : Nat) : bmx a b (j + 1) = if bmx a b j < adN (a j) (b j) then adN (a j) (b j) else bmx a b j := rfl
theorem adN_0 (a : Nat) : adN a a = 0 := by unfold adN; omega
theorem efN_one {P a b : Nat → Nat} {x : Nat} (h : ∀ j, j ≠ x → b j = a j) : ∀ n, efN P a b n = if x < n then P x * adN (a x) (b x) else 0
  | 0 => by rw [if_neg (by omega)]; rfl
  | n + 1 => by
    rw [efN_s, efN_one h n]
    by_cases e : n = x
    · subst e
      rw [if_neg (by omega), if_pos (by omega), Nat.zero_add]
    · rw [h n e, adN_0, Nat.mul_zero, Nat.add_zero]
      by_cases q : x < n
      · rw [if_pos q, if_pos (by omega)]
      · rw [if_neg q, if_neg (by omega)]
theorem bmx_one {a b : Nat → Nat} {x : Nat} (h : ∀ j, j ≠ x → b j = a j) : ∀ n, bmx a b n = if x < n then adN (a x) (b x) else 0
  | 0 => by rw [if_neg (by omega)]; rfl
  | n + 1 => by
    rw [bmx_s, bmx_one h n]
    by_cases e : n = x
    · subst e
      rw [if_neg (show ¬ n < n by omega), if_pos (show n < n + 1 by omega)]
      by_cases q : 0 < adN (a n) (b n)
      · rw [if_pos q]
      · rw [if_neg q]; omega
    · rw [h n e, adN_0, if_neg (Nat.not_lt_zero _)]
      by_cases q : x < n
      · rw [if_pos q, if_pos (by omega)]
      · rw [if_neg q, if_neg (by omega)]
def btS (mb mh a : Nat → Nat) : Nat → Nat
  | 0 => 0
  | i + 1 => btS mb mh a i + adN (apM mb mh a i (mb i)) (mh i)
def efS (P mb mh a : Nat → Nat) : Nat → Nat
  | 0 => 0
  | i + 1 => efS P mb mh a i + P (mb i) * adN (apM mb mh a i (mb i)) (mh i)
theorem btS_s (mb mh a : Nat → Nat) (i : Nat) : btS mb mh a (i + 1) = btS mb mh a i + adN (apM mb mh a i (mb i)) (mh i) := rfl
theorem efS_s (P mb mh a : Nat → Nat) (i : Nat) : efS P mb mh a (i + 1) = efS P mb mh a i + P (mb i) * adN (apM mb mh a i (mb i)) (mh i) := rfl
/-- w: the number of the first wrong, or m -/
def FW (n : Nat) (P dr : Nat → Nat) (mb mh a : Nat → Nat) (m H w : Nat) : Prop := w ≤ m ∧ (∀ k, k < w → CAN n P dr (apM mb mh a k) (apM mb mh a (k + 1)) H) ∧ (w < m → ¬ CAN n P dr (apM mb mh a w) (apM mb mh a (w + 1)) H)
theorem FW_ex (n : Nat) (P dr mb mh a : Nat → Nat) (H : Nat) : ∀ m, ∃ w, FW n P dr mb mh a m H w
  | 0 => ⟨0, Nat.le_refl _, fun k hk => by omega, fun h => by omega⟩
  | m + 1 => by
    obtain ⟨w, h1, h2, h3⟩ := FW_ex n P dr mb mh a H m
    by_cases e : w < m
    · exact ⟨w, by omega, h2, fun _ => h3 e⟩
    · obtain rfl : w = m := by omega
      by_cases q : CAN n P dr (apM mb mh a w) (apM mb mh a (w + 1)) H
      · refine ⟨w + 1, Nat.le_refl _, fun k hk => ?_, fun h => by omega⟩
        by_cases e2 : k = w
        · subst e2; exact q
        · exact h2 k (by omega)
      · exact ⟨w, by omega, h2, fun _ => q⟩
section ACT
variable {n : Nat} {kd ld br ht dr : Nat → Nat} {hd tr : Nat}
theorem c_runL (R : Rng n kd ld br ht dr hd tr) {m H w : Nat} (hm : m ≤ 20) (hH : H ≤ 9) {mb mh : Nat → Nat} (mv : ∀ k, k < m → mb k < 8 ∧ mh k ≤ 9) (hw : FW n (pl kd ld br) dr mb mh ht m H w) : ∀ (d i fuel : Nat) (M : MM), CLo M n kd ld br ht dr hd tr → M 65 2 = nI m → (∀ k, k < m → M 66 k = nI (mb k) ∧ M 67 k = nI (mh k)) → (∀ j, j < 8 → M 69 j = nI (apM mb mh ht i j) ∧ M 70 j = nI (apM mb mh ht i j)) → M 68 2 = nI (btS mb mh ht i) → M 68 3 = nI (efS (pl kd ld br) mb mh ht i) → M 68 4 = -9 → i + d = w → d < fuel → ∃ M' : MM, g_X0_run_55 fuel M (nI H) (nI i) = some M' ∧ (∀ k j, ¬ (68 ≤ k ∧ k ≤ 70) → M' k j = M k j) ∧ M' 68 4 = (if w = m then -9 else nI w) ∧ (w = m → M' 68 2 = nI (btS mb mh ht m) ∧ M' 68 3 = nI (efS (pl kd ld br) mb mh ht m) ∧ ∀ j, j < 8 → M' 70 j = nI (apM mb mh ht m j)) := by
  obtain ⟨w1, w2, w3⟩ := hw
  have a9 : ∀ i, i ≤ m → ∀ j, j < 8 → apM mb mh ht i j ≤ 9 := fun i hi => apM_9 i (fun j hj => (R.2.1 j hj).2.2.2.1) (fun j hj => (mv j (by omega)).2)
  intro d
  induction d with
  | zero =>
    intro i fuel M h h1 h2 h3 h4 h5 h6 h7 h8
    obtain ⟨f, rfl⟩ : ∃ f, fuel = f + 1 := ⟨fuel - 1, by omega⟩
    obtain rfl : i = w := by omega
    by_cases e : i = m
    · subst e
      rw [g_X0_run_55, h1, if_pos (nI_le (Nat.le_refl i) (by omega))]
      refine ⟨M, rfl, fun _ _ _ => rfl, by rw [if_pos rfl]; exact h6, fun _ => ⟨h4, h5, fun j hj => (h3 j hj).2⟩⟩
    · have him : i < m := by omega
      obtain ⟨b1, b2⟩ := mv i him
      obtain ⟨a1, a2⟩ := h2 i him
      rw [g_X0_run_55, h1, if_neg (nI_ge him (by omega)), if_pos (ib_ok (by omega) (by omega)), nI_clamp (by omega), a1, nm_eq, if_pos (ib_ok (by omega) (by omega)), if_pos (ib_ok b1 (by omega)), nI_clamp (by omega), a2, nm_eq]
      obtain ⟨r, r1, r2⟩ := c_canBe (M := up2 M 70 (mb i) (nI (mh i))) (k1 := 69) (k2 := 70) (a := apM mb mh ht i) (b := apM mb mh ht (i + 1)) (H := H) (h.cong (fun k j _ r => up2_of (by unfold relLo at r; omega))) R (fun j hj => ⟨by rw [up2_of (by omega)]; exact (h3 j hj).1, a9 i (by omega) j hj⟩) (fun j hj => ⟨by
        rw [apM_s]
        by_cases e : j = mb i
        · rw [if_pos e, e, up2_at]
        · rw [if_neg e, up2_of (by omega)]; exact (h3 j hj).2, a9 (i + 1) (by omega) j hj⟩) hH
      rw [r2, br_s]
      cases r with
      | true => exact absurd (r1.mp rfl) (w3 him)
      | false =>
        rw [if_pos (show b2i false = 0 from rfl), nm_eq]
        exact ⟨_, rfl, fun k j r => by rw [up2_of (by omega), up2_of (by omega)], by rw [up2_at, if_neg e], fun z => absurd z e⟩
  | succ d ih =>
    intro i fuel M h h1 h2 h3 h4 h5 h6 h7 h8
    obtain ⟨f, rfl⟩ : ∃ f, fuel = f + 1 := ⟨fuel - 1, by omega⟩
    have him : i < m := by omega
    obtain ⟨b1, b2⟩ := mv i him
    obtain ⟨a1, a2⟩ := h2 i him
    have bo := ib_ok b1 (show 8 ≤ 2 ^ 31 by omega)
    have i9 := a9 i (by omega) (mb i) b1
    rw [g_X0_run_55, h1, if_neg (nI_ge him (by omega)), if_pos (ib_ok (by omega) (by omega)), nI_clamp (by omega), a1, nm_eq, if_pos (ib_ok (by omega) (by omega)), if_pos bo, nI_clamp (by omega), a2, nm_eq]
    generalize eM7 : up2 M 70 (mb i) (nI (mh i)) = M7
    have u7 : ∀ k j, ¬ (k = 70 ∧ j = mb i) → M7 k j = M k j := fun k j r => by rw [← eM7, up2_of r]
    have q69 : ∀ j, j < 8 → M7 69 j = nI (apM mb mh ht i j) := fun j hj => by rw [u7 _ _ (by omega)]; exact (h3 j hj).1
    have q70 : ∀ j, j < 8 → M7 70 j = nI (apM mb mh ht (i + 1) j) := fun j hj => by
      rw [apM_s]
      by_cases e : j = mb i
      · rw [if_pos e, e, ← eM7, up2_at]
      · rw [if_neg e, u7 _ _ (by omega)]; exact (h3 j hj).2
    obtain ⟨r, r1, r2⟩ := c_canBe (M := M7) (k1 := 69) (k2 := 70) (a := apM mb mh ht i) (b := apM mb mh ht (i + 1)) (H := H) (h.cong (fun k j _ r => u7 k j (by unfold relLo at r; omega))) R (fun j hj => ⟨q69 j hj, a9 i (by omega) j hj⟩) (fun j hj => ⟨q70 j hj, a9 (i + 1) (by omega) j hj⟩) hH
    rw [r2, br_s]
    cases r with
    | false => exact absurd (r1.mpr (w2 i (by omega))) (by decide)
    | true =>
      have eap : apM mb mh ht (i + 1) (mb i) = mh i := by rw [apM_s, if_pos rfl]
      rw [if_neg (by decide), if_pos bo, if_pos bo, q69 _ b1, q70 _ b1, eap, ab_d (mh i) (by omega) _ (by omega), adN_comm (mh i), nm_eq, u7 68 2 (by omega), h4, nI_add, ← btS_s, nm_eq]
      generalize eM11 : up2 M7 68 2 (nI (btS mb mh ht (i + 1))) = M11
      have u11 : ∀ k j, ¬ (k = 68 ∧ j = 2) → M11 k j = M7 k j := fun k j r => by rw [← eM11, up2_of r]
      rw [c_pull (M := M11) (h.cong (fun k j _ r => by rw [u11 k j (by unfold relLo at r; omega), u7 k j (by unfold relLo at r; omega)])) R b1, br_s, pk_mul, Nat.mul_comm, u11 68 3 (by omega), u7 68 3 (by omega), h5, nI_add]
      have ees : efS (pl kd ld br) mb mh ht i + pullN (kd (mb i)) (ld (mb i)) (br (mb i)) * adN (apM mb mh ht i (mb i)) (mh i) = efS (pl kd ld br) mb mh ht (i + 1) := rfl
      rw [ees, nm_eq, if_pos bo, if_pos bo]
      generalize eM14 : up2 M11 68 3 (nI (efS (pl kd ld br) mb mh ht (i + 1))) = M14
      have u14 : ∀ k j, ¬ (k = 68 ∧ j = 3) → M14 k j = M11 k j := fun k j r => by rw [← eM14, up2_of r]
      rw [u14 70 _ (by omega), u11 70 _ (by omega), q70 _ b1, nm_eq, show nI i + (1 : Int32) = nI (i + 1) from nI_1 _]
      generalize eM15 : up2 M14 69 (mb i) (nI (apM mb mh ht (i + 1) (mb i))) = M15
      have u15 : ∀ k j, ¬ (k = 69 ∧ j = mb i) → M15 k j = M14 k j := fun k j r => by rw [← eM15, up2_of r]
      have U : ∀ k j, ¬ (68 ≤ k ∧ k ≤ 70) → M15 k j = M k j := fun k j r => by rw [u15 k j (by omega), u14 k j (by omega), u11 k j (by omega), u7 k j (by omega)]
      obtain ⟨M', e1, e2, e3, e4⟩ := ih (i + 1) f M15 (h.cong (fun k j _ r => U k j (by unfold relLo at r; omega))) (by rw [U _ _ (by omega)]; exact h1) (fun k hk => by rw [U _ _ (by omega), U _ _ (by omega)]; exact h2 k hk) (fun j hj => ⟨by
        by_cases e : j = mb i
        · rw [e, ← eM15, up2_at]
        · rw [u15 _ _ (by omega), u14 _ _ (by omega), u11 _ _ (by omega), q69 j hj, apM_s, if_neg e], by rw [u15 _ _ (by omega), u14 _ _ (by omega), u11 _ _ (by omega), q70 j hj]⟩) (by rw [u15 _ _ (by omega), u14 _ _ (by omega), ← eM11, up2_at]) (by rw [u15 _ _ (by omega), ← eM14, up2_at]) (by rw [u15 _ _ (by omega), u14 _ _ (by omega), u11 _ _ (by omega), u7 _ _ (by omega)]; exact h6) (by omega) (by omega)
      exact ⟨M', e1, fun k j r => by rw [e2 k j r, U k j r], e3, e4⟩
theorem c_run {M : MM} (h : CLo M n kd ld br ht dr hd tr) (R : Rng n kd ld br ht dr hd tr) {m H w : Nat} (hm : m ≤ 20) (hH : H ≤ 9) {mb mh : Nat → Nat} (mv : ∀ k, k < m → mb k < 8 ∧ mh k ≤ 9) (hw : FW n (pl kd ld br) dr mb mh ht m H w) (h1 : M 65 2 = nI m) (h2 : ∀ k, k < m → M 66 k = nI (mb k) ∧ M 67 k = nI (mh k)) : ∃ M' : MM, f_X0_run M (nI H) = some M' ∧ (∀ k j, ¬ (68 ≤ k ∧ k ≤ 70) → M' k j = M k j) ∧ M' 68 4 = (if w = m then -9 else nI w) ∧ (w = m → M' 68 2 = nI (btS mb mh ht m) ∧ M' 68 3 = nI (efS (pl kd ld br) mb mh ht m) ∧ ∀ j, j < 8 → M' 70 j = nI (apM mb mh ht m j)) := by
  unfold f_X0_run
  rw [nm_eq, nm_eq, nm_eq, if_pos cp8, nm_eq, if_pos cp8, nm_eq]
  generalize eM3 : up2 (up2 (up2 M 68 2 0) 68 3 0) 68 4 (-9) = M3
  have u3 : ∀ k j, k ≠ 68 → M3 k j = M k j := fun k j r => by rw [← eM3, up2_of (by omega), up2_of (by omega), up2_of (by omega)]
  generalize eM4 : upR M3 69 _ = M4
  have u4 : ∀ k j, k ≠ 69 → M4 k j = M3 k j := fun k j r => by rw [← eM4, upR_ne r]
  generalize eM5 : upR M4 70 _ = M5
  have u5 : ∀ k j, k ≠ 70 → M5 k j = M4 k j := fun k j r => by rw [← eM5, upR_ne r]
  have U : ∀ k j, ¬ (68 ≤ k ∧ k ≤ 70) → M5 k j = M k j := fun k j r => by rw [u5 k j (by omega), u4 k j (by omega), u3 k j (by omega)]
  obtain ⟨M', e1, e2, e3, e4⟩ := c_runL R hm hH mv hw w 0 FU M5 (h.cong (fun k j _ r => U k j (by unfold relLo at r; omega))) (by rw [U _ _ (by omega)]; exact h1) (fun k hk => by rw [U _ _ (by omega), U _ _ (by omega)]; exact h2 k hk) (fun j hj => ⟨by rw [u5 _ _ (by omega), ← eM4, upR_at, cpz _ _ hj, u3 _ _ (by omega)]; exact h.2.2.2.2.2.1 j hj, by rw [← eM5, upR_at, cpz _ _ hj, u4 _ _ (by omega), u3 _ _ (by omega)]; exact h.2.2.2.2.2.1 j hj⟩) (by rw [u5 _ _ (by omega), u4 _ _ (by omega), ← eM3, up2_of (by omega), up2_of (by omega), up2_at]; rfl) (by rw [u5 _ _ (by omega), u4 _ _ (by omega), ← eM3, up2_of (by omega), up2_at]; rfl) (by rw [u5 _ _ (by omega), u4 _ _ (by omega), ← eM3, up2_at]) (by omega) (by have := hw.1; have := FU_eq; omega)
  exact ⟨M', e1, fun k j r => by rw [e2 k j r, U k j r], e3, e4⟩
theorem m_eff {M : MM} {a b : Nat → Nat} (h : MLo M n kd ld br a dr hd tr) (R : Rng n kd ld br a dr hd tr) (hb : ∀ i, i < n → M 93 i = nI (b i) ∧ b i ≤ 9) : ∀ (d i fuel : Nat), i + d = n → d < fuel → g_X11_effort_4 M fuel (nI (efN (pl kd ld br) a b i)) (nI i) = some (nI (efN (pl kd ld br) a b n)) := by
  have n8 := R.1
  intro d
  induction d with
  | zero =>
    intro i fuel h1 h2
    obtain ⟨f, rfl⟩ : ∃ f, fuel = f + 1 := ⟨fuel - 1, by omega⟩
    obtain rfl : i = n := by omega
    rw [g_X11_effort_4, h.1, if_pos (nI_le (Nat.le_refl i) (by omega))]
  | succ d ih =>
    intro i fuel h1 h2
    obtain ⟨f, rfl⟩ : ∃ f, fuel = f + 1 := ⟨fuel - 1, by omega⟩
    have hi : i < 8 := by omega
    obtain ⟨b1, b2⟩ := hb i (by omega)
    rw [g_X11_effort_4, h.1, if_neg (nI_ge (by omega) (by omega)), m_pull h R hi, br_s, if_pos (ib_ok hi (by omega)), if_pos (ib_ok hi (by omega)), nI_clamp (by omega), b1, h.2.2.2.2.2.1 i hi, apart_n M (R.2.1 i hi).2.2.2.1 b2, br_s, pk_mul, nI_add, nm_eq, show nI i + (1 : Int32) = nI (i + 1) from nI_1 _]
    exact ih (i + 1) f (by omega) (by omega)
theorem m_goL (R : Rng n kd ld br ht dr hd tr) (hn : 1 ≤ n) {m w o : Nat} (hm : m ≤ 20) (ho : o + 2 * m ≤ 240) {mb mh : Nat → Nat} (mv : ∀ k, k < m → mb k < n ∧ mh k ≤ 9) (hw : FW n (pl kd ld br) dr mb mh ht m hd w) : ∀ (d i fuel : Nat) (M : MM), MLo M n kd ld br (apM mb mh ht i) dr hd tr → (∀ k, k < m → M 86 (o + 2 * k) = nI (mb k) ∧ M 86 (o + 2 * k + 1) = nI (mh k)) → M 83 28 = nI (btS mb mh ht i) → M 83 29 = nI (efS (pl kd ld br) mb mh ht i) → i + d = w → d < fuel → ∃ M' : MM, g_X11_goAct_12 fuel M (nI o) (nI m) (nI i) = some (if w = m then -9 else nI w, M') ∧ (∀ k j, k ≠ 90 → k ≠ 93 → ¬ (k = 83 ∧ (j = 28 ∨ j = 29)) → M' k j = M k j) ∧ MLo M' n kd ld br (apM mb mh ht w) dr hd tr ∧ (w = m → M' 83 28 = nI (btS mb mh ht m) ∧ M' 83 29 = nI (efS (pl kd ld br) mb mh ht m)) := by
  obtain ⟨w1, w2, w3⟩ := hw
  have n8 := R.1
  have a9 : ∀ i, i ≤ m → ∀ j, j < 8 → apM mb mh ht i j ≤ 9 := fun i hi => apM_9 i (fun j hj => (R.2.1 j hj).2.2.2.1) (fun j hj => (mv j (by omega)).2)
  have RR : ∀ i, i ≤ m → Rng n kd ld br (apM mb mh ht i) dr hd tr := fun i hi => ⟨R.1, fun j hj => ⟨(R.2.1 j hj).1, (R.2.1 j hj).2.1, (R.2.1 j hj).2.2.1, a9 i hi j hj, (R.2.1 j hj).2.2.2.2⟩, R.2.2.1, R.2.2.2⟩
  intro d
  induction d with
  | zero =>
    intro i fuel M h h2 h4 h5 h7 h8
    obtain ⟨f, rfl⟩ : ∃ f, fuel = f + 1 := ⟨fuel - 1, by omega⟩
    obtain rfl : i = w := by omega
    by_cases e : i = m
    · subst e
      rw [g_X11_goAct_12, if_pos (nI_le (Nat.le_refl i) (by omega)), if_pos rfl]
      exact ⟨M, rfl, fun _ _ _ _ _ => rfl, h, fun _ => ⟨h4, h5⟩⟩
    · have him : i < m := by omega
      obtain ⟨b1, b2⟩ := mv i him
      obtain ⟨a1, a2⟩ := h2 i him
      obtain ⟨Mg, g0, g1, g2⟩ := m_goalsN (M := M) n8 h.1
      rw [g_X11_goAct_12, if_neg (nI_ge him (by omega)), g0, br_s, ix2, show nI (o + 2 * i) + (1 : Int32) = nI (o + 2 * i + 1) from nI_1 _, if_pos (ib_ok (by omega) (by omega)), if_pos (ib_ok (by omega) (by omega)), nI_clamp (by omega), nI_clamp (by omega), g2 86 _ (by omega), g2 86 _ (by omega), a1, a2, if_pos (ib_ok (by omega) (by omega)), nI_clamp (by omega), nm_eq]
      have U : ∀ k j, k ≠ 93 → up2 Mg 93 (mb i) (nI (mh i)) k j = M k j := fun k j r => by rw [up2_of (by omega), g2 k j (by omega)]
      have hM6 : MLo (up2 Mg 93 (mb i) (nI (mh i))) n kd ld br (apM mb mh ht i) dr hd tr := h.cong (fun k j _ r => U k j (by unfold relLo at r; omega))
      obtain ⟨r, r1, r2⟩ := m_canBe (M := up2 Mg 93 (mb i) (nI (mh i))) (b := apM mb mh ht (i + 1)) hM6 (RR i (by omega)) hn (fun j hj => ⟨by
        rw [apM_s]
        by_cases e : j = mb i
        · rw [if_pos e, e, up2_at]
        · rw [if_neg e, up2_of (by omega), g1 j hj]; exact h.2.2.2.2.2.1 j (by omega), a9 (i + 1) (by omega) j (by omega)⟩)
      rw [r2, br_s]
      cases r with
      | true => exact absurd (r1.mp rfl) (w3 him)
      | false =>
        rw [if_pos (show b2i false = 0 from rfl), if_neg e]
        exact ⟨_, rfl, fun k j _ r _ => U k j r, hM6, fun z => absurd z e⟩
  | succ d ih =>
    intro i fuel M h h2 h4 h5 h7 h8
    obtain ⟨f, rfl⟩ : ∃ f, fuel = f + 1 := ⟨fuel - 1, by omega⟩
    have him : i < m := by omega
    obtain ⟨b1, b2⟩ := mv i him
    obtain ⟨a1, a2⟩ := h2 i him
    obtain ⟨Mg, g0, g1, g2⟩ := m_goalsN (M := M) n8 h.1
    rw [g_X11_goAct_12, if_neg (nI_ge him (by omega)), g0, br_s, ix2, show nI (o + 2 * i) + (1 : Int32) = nI (o + 2 * i + 1) from nI_1 _, if_pos (ib_ok (by omega) (by omega)), if_pos (ib_ok (by omega) (by omega)), nI_clamp (by omega), nI_clamp (by omega), g2 86 _ (by omega), g2 86 _ (by omega), a1, a2, if_pos (ib_ok (by omega) (by omega)), nI_clamp (by omega), nm_eq]
    generalize eM6 : up2 Mg 93 (mb i) (nI (mh i)) = M6
    have U : ∀ k j, k ≠ 93 → M6 k j = M k j := fun k j r => by rw [← eM6, up2_of (by omega), g2 k j (by omega)]
    have hM6 : MLo M6 n kd ld br (apM mb mh ht i) dr hd tr := h.cong (fun k j _ r => U k j (by unfold relLo at r; omega))
    have hB : ∀ j, j < n → M6 93 j = nI (apM mb mh ht (i + 1) j) ∧ apM mb mh ht (i + 1) j ≤ 9 := fun j hj => ⟨by
        rw [apM_s]
        by_cases e : j = mb i
        · rw [if_pos e, e, ← eM6, up2_at]
        · rw [if_neg e, ← eM6, up2_of (by omega), g1 j hj]; exact h.2.2.2.2.2.1 j (by omega), a9 (i + 1) (by omega) j (by omega)⟩
    obtain ⟨r, r1, r2⟩ := m_canBe (M := M6) (b := apM mb mh ht (i + 1)) hM6 (RR i (by omega)) hn hB
    rw [r2, br_s]
    cases r with
    | false => exact absurd (r1.mpr (w2 i (by omega))) (by decide)
    | true =>
      have hone : ∀ j, j ≠ mb i → apM mb mh ht (i + 1) j = apM mb mh ht i j := fun j hj => by rw [apM_s, if_neg hj]
      have eap : apM mb mh ht (i + 1) (mb i) = mh i := by rw [apM_s, if_pos rfl]
      have eb : f_X11_beats M6 = some (nI (adN (apM mb mh ht i (mb i)) (mh i))) := by
        have := m_beat (M := M6) n8 hM6.1 (a := apM mb mh ht i) (b := apM mb mh ht (i + 1)) (fun j hj => ⟨hM6.2.2.2.2.2.1 j hj, a9 i (by omega) j hj⟩) hB n 0 FU (by omega) (by have := FU_eq; omega)
        rw [bmx_one hone n, if_pos b1, eap] at this
        exact this
      rw [if_neg (by decide), eb, br_s, U 83 28 (by omega), h4, nI_add, ← btS_s, nm_eq]
      generalize eM11 : up2 M6 83 28 (nI (btS mb mh ht (i + 1))) = M11
      have u11 : ∀ k j, ¬ (k = 83 ∧ j = 28) → M11 k j = M6 k j := fun k j r => by rw [← eM11, up2_of r]
      have hM11 : MLo M11 n kd ld br (apM mb mh ht i) dr hd tr := hM6.cong (fun k j _ r => u11 k j (by unfold relLo at r; omega))
      have ee : f_X11_effort M11 = some (nI ((pl kd ld br) (mb i) * adN (apM mb mh ht i (mb i)) (mh i))) := by
        have := m_eff (M := M11) (a := apM mb mh ht i) (b := apM mb mh ht (i + 1)) hM11 (RR i (by omega)) (fun j hj => by rw [u11 _ _ (by omega)]; exact hB j hj) n 0 FU (by omega) (by have := FU_eq; omega)
        rw [efN_one hone n, if_pos b1, eap] at this
        exact this
      rw [ee, br_s, u11 83 29 (by omega), U 83 29 (by omega), h5, nI_add, ← efS_s, nm_eq]
      generalize eM14 : up2 M11 83 29 (nI (efS (pl kd ld br) mb mh ht (i + 1))) = M14
      have u14 : ∀ k j, ¬ (k = 83 ∧ j = 29) → M14 k j = M11 k j := fun k j r => by rw [← eM14, up2_of r]
      obtain ⟨Mh, k0, k1, k2⟩ := m_goesN (M := M14) n8 (by rw [u14 _ _ (by omega)]; exact hM11.1)
      rw [k0, br_s, show nI i + (1 : Int32) = nI (i + 1) from nI_1 _]
      have V : ∀ k j, k ≠ 93 → ¬ (k = 90 ∧ j < n) → ¬ (k = 83 ∧ (j = 28 ∨ j = 29)) → Mh k j = M k j := fun k j r1 r2 r3 => by rw [k2 k j r2, u14 k j (by omega), u11 k j (by omega), U k j r1]
      have hMh : MLo Mh n kd ld br (apM mb mh ht (i + 1)) dr hd tr := by
        refine ⟨by rw [V _ _ (by omega) (by omega) (by omega)]; exact h.1, fun j hj => by rw [V _ _ (by omega) (by omega) (by omega)]; exact h.2.1 j hj, fun j hj => by rw [V _ _ (by omega) (by omega) (by omega)]; exact h.2.2.1 j hj, fun j hj => by rw [V _ _ (by omega) (by omega) (by omega)]; exact h.2.2.2.1 j hj, fun j hj => by rw [V _ _ (by omega) (by omega) (by omega)]; exact h.2.2.2.2.1 j hj, fun j hj => ?_, by rw [V _ _ (by omega) (by omega) (by omega)]; exact h.2.2.2.2.2.2.1, by rw [V _ _ (by omega) (by omega) (by omega)]; exact h.2.2.2.2.2.2.2⟩
        by_cases e : j < n
        · rw [k1 j e, u14 _ _ (by omega), u11 _ _ (by omega)]; exact (hB j e).1
        · rw [V _ _ (by omega) (by omega) (by omega), hone j (by omega)]; exact h.2.2.2.2.2.1 j hj
      obtain ⟨M', e1, e2, e3, e4⟩ := ih (i + 1) f Mh hMh (fun k hk => by rw [V _ _ (by omega) (by omega) (by omega), V _ _ (by omega) (by omega) (by omega)]; exact h2 k hk) (by rw [k2 _ _ (by omega), u14 _ _ (by omega), ← eM11, up2_at]) (by rw [k2 _ _ (by omega), ← eM14, up2_at]) (by omega) (by omega)
      exact ⟨M', e1, fun k j r1 r2 r3 => by rw [e2 k j r1 r2 r3, V k j r2 (by omega) r3], e3, e4⟩
end ACT
