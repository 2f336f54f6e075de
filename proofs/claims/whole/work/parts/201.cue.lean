-- the most that one goes
def bmx (a b : Nat → Nat) : Nat → Nat
  | 0 => 0
  | j + 1 => if bmx a b j < adN (a j) (b j) then adN (a j) (b j) else bmx a b j
theorem bmx_le {a b : Nat → Nat} : ∀ i, (∀ j, j < i → a j ≤ 9 ∧ b j ≤ 9) → bmx a b i ≤ 9
  | 0, _ => Nat.zero_le _
  | i + 1, h => by
    have h1 := bmx_le i (fun j hj => h j (by omega))
    have h2 := adN_le (h i (by omega)).1 (h i (by omega)).2
    unfold bmx
    split <;> omega
theorem adN_comm (a b : Nat) : adN a b = adN b a := by unfold adN; omega
theorem apart_n (M : MM) {x y : Nat} (hx : x ≤ 9) (hy : y ≤ 9) : f_X11_apart M (nI x) (nI y) = some (nI (adN x y)) := by
  unfold f_X11_apart adN
  by_cases q : y ≤ x
  · rw [if_pos (nI_le q (by omega)), pk_sub q]
    congr 2
    omega
  · rw [if_neg (nI_ge (by omega) (by omega)), pk_sub (by omega)]
    congr 2
    omega
theorem c_beat {M : MM} {n : Nat} (hn : n ≤ 8) (h : M 20 3 = nI n) {k1 k2 : Nat} {a b : Nat → Nat} (ha : ∀ i, i < 8 → M k1 i = nI (a i) ∧ a i ≤ 9) (hb : ∀ i, i < 8 → M k2 i = nI (b i) ∧ b i ≤ 9) : ∀ (d i fuel : Nat), i + d = n → d < fuel → g_X1_beats_5 M k1 k2 fuel (nI (bmx a b i)) (nI i) = some (nI (bmx a b n)) := by
  intro d
  induction d with
  | zero =>
    intro i fuel h1 h2
    obtain ⟨f, rfl⟩ : ∃ f, fuel = f + 1 := ⟨fuel - 1, by omega⟩
    obtain rfl : i = n := by omega
    rw [g_X1_beats_5, h, if_pos (nI_le (Nat.le_refl i) (by omega))]
  | succ d ih =>
    intro i fuel h1 h2
    obtain ⟨f, rfl⟩ : ∃ f, fuel = f + 1 := ⟨fuel - 1, by omega⟩
    have hi : i < 8 := by omega
    obtain ⟨a1, a2⟩ := ha i hi
    obtain ⟨b1, b2⟩ := hb i hi
    have hm := bmx_le (a := a) (b := b) i (fun j hj => ⟨(ha j (by omega)).2, (hb j (by omega)).2⟩)
    have had := adN_le a2 b2
    rw [g_X1_beats_5, h, if_neg (nI_ge (by omega) (by omega)), if_pos (ib_ok hi (by omega)), if_pos (ib_ok hi (by omega)), nI_clamp (by omega), a1, b1, ab_d (b i) (by omega) (a i) (by omega), adN_comm (b i) (a i)]
    simp only [nm_eq, show nI i + (1 : Int32) = nI (i + 1) from nI_1 i]
    have e : mx32 (nI (bmx a b i)) (nI (adN (a i) (b i))) = nI (bmx a b (i + 1)) := by
      unfold mx32
      show _ = nI (if bmx a b i < adN (a i) (b i) then adN (a i) (b i) else bmx a b i)
      by_cases q : bmx a b i < adN (a i) (b i)
      · rw [if_pos (nI_lt q (by omega)), if_pos q]
      · rw [if_neg (nI_nlt (by omega) (by omega)), if_neg q]
    rw [e]
    exact ih (i + 1) f (by omega) (by omega)
theorem m_beat {M : MM} {n : Nat} (hn : n ≤ 8) (h : M 83 5 = nI n) {a b : Nat → Nat} (ha : ∀ i, i < 8 → M 90 i = nI (a i) ∧ a i ≤ 9) (hb : ∀ i, i < n → M 93 i = nI (b i) ∧ b i ≤ 9) : ∀ (d i fuel : Nat), i + d = n → d < fuel → g_X11_beats_4 M fuel (nI (bmx a b i)) (nI i) = some (nI (bmx a b n)) := by
  intro d
  induction d with
  | zero =>
    intro i fuel h1 h2
    obtain ⟨f, rfl⟩ : ∃ f, fuel = f + 1 := ⟨fuel - 1, by omega⟩
    obtain rfl : i = n := by omega
    rw [g_X11_beats_4, h, if_pos (nI_le (Nat.le_refl i) (by omega))]
  | succ d ih =>
    intro i fuel h1 h2
    obtain ⟨f, rfl⟩ : ∃ f, fuel = f + 1 := ⟨fuel - 1, by omega⟩
    have hi : i < 8 := by omega
    obtain ⟨a1, a2⟩ := ha i hi
    obtain ⟨b1, b2⟩ := hb i (by omega)
    have hm := bmx_le (a := a) (b := b) i (fun j hj => ⟨(ha j (by omega)).2, (hb j (by omega)).2⟩)
    have had := adN_le a2 b2
    have ih' := ih (i + 1) f (by omega) (by omega)
    have eb : bmx a b (i + 1) = if bmx a b i < adN (a i) (b i) then adN (a i) (b i) else bmx a b i := rfl
    rw [g_X11_beats_4, h, if_neg (nI_ge (by omega) (by omega)), if_pos (ib_ok hi (by omega)), if_pos (ib_ok hi (by omega)), nI_clamp (by omega), a1, b1, apart_n M a2 b2]
    simp only [br_s, show nI i + (1 : Int32) = nI (i + 1) from nI_1 i]
    by_cases q : bmx a b i < adN (a i) (b i)
    · rw [if_neg (nI_ge q (by omega))]
      rw [eb, if_pos q] at ih'
      exact ih'
    · rw [if_pos (nI_le (by omega) (by omega))]
      rw [eb, if_neg q] at ih'
      exact ih'
/-- the reference's goals are the heights now -/
theorem m_goals {n : Nat} (hn : n ≤ 8) : ∀ (d i fuel : Nat) (M : MM), M 83 5 = nI n → i + d = n → d < fuel → ∃ M' : MM, g_X11_goalsAsNow_2 fuel M (nI i) = some M' ∧ (∀ j, i ≤ j → j < n → M' 93 j = M 90 j) ∧ ∀ k j, ¬ (k = 93 ∧ i ≤ j ∧ j < n) → M' k j = M k j := by
  intro d
  induction d with
  | zero =>
    intro i fuel M h h1 h2
    obtain ⟨f, rfl⟩ : ∃ f, fuel = f + 1 := ⟨fuel - 1, by omega⟩
    obtain rfl : i = n := by omega
    rw [g_X11_goalsAsNow_2, h, if_pos (nI_le (Nat.le_refl i) (by omega))]
    exact ⟨M, rfl, fun j g1 g2 => by omega, fun k j _ => rfl⟩
  | succ d ih =>
    intro i fuel M h h1 h2
    obtain ⟨f, rfl⟩ : ∃ f, fuel = f + 1 := ⟨fuel - 1, by omega⟩
    have hi : i < 8 := by omega
    rw [g_X11_goalsAsNow_2, h, if_neg (nI_ge (by omega) (by omega)), if_pos (ib_ok hi (by omega)), if_pos (ib_ok hi (by omega)), nI_clamp (by omega)]
    simp only [nm_eq, show nI i + (1 : Int32) = nI (i + 1) from nI_1 i]
    obtain ⟨M', g0, g1, g2⟩ := ih (i + 1) f (up2 M 93 i (M 90 i)) (by rw [up2_of (by omega)]; exact h) (by omega) (by omega)
    refine ⟨M', g0, fun j j1 j2 => ?_, fun k j r => ?_⟩
    · by_cases e : j = i
      · subst e
        rw [g2 93 j (by omega), up2_at]
      · rw [g1 j (by omega) j2, up2_of (by omega)]
    · rw [g2 k j (by omega), up2_of (by omega)]
/-- the reference's heights become its goals -/
theorem m_goes {n : Nat} (hn : n ≤ 8) : ∀ (d i fuel : Nat) (M : MM), M 83 5 = nI n → i + d = n → d < fuel → ∃ M' : MM, g_X11_goes_2 fuel M (nI i) = some M' ∧ (∀ j, i ≤ j → j < n → M' 90 j = M 93 j) ∧ ∀ k j, ¬ (k = 90 ∧ i ≤ j ∧ j < n) → M' k j = M k j := by
  intro d
  induction d with
  | zero =>
    intro i fuel M h h1 h2
    obtain ⟨f, rfl⟩ : ∃ f, fuel = f + 1 := ⟨fuel - 1, by omega⟩
    obtain rfl : i = n := by omega
    rw [g_X11_goes_2, h, if_pos (nI_le (Nat.le_refl i) (by omega))]
    exact ⟨M, rfl, fun j g1 g2 => by omega, fun k j _ => rfl⟩
  | succ d ih =>
    intro i fuel M h h1 h2
    obtain ⟨f, rfl⟩ : ∃ f, fuel = f + 1 := ⟨fuel - 1, by omega⟩
    have hi : i < 8 := by omega
    rw [g_X11_goes_2, h, if_neg (nI_ge (by omega) (by omega)), if_pos (ib_ok hi (by omega)), if_pos (ib_ok hi (by omega)), nI_clamp (by omega)]
    simp only [nm_eq, show nI i + (1 : Int32) = nI (i + 1) from nI_1 i]
    obtain ⟨M', g0, g1, g2⟩ := ih (i + 1) f (up2 M 90 i (M 93 i)) (by rw [up2_of (by omega)]; exact h) (by omega) (by omega)
    refine ⟨M', g0, fun j j1 j2 => ?_, fun k j r => ?_⟩
    · by_cases e : j = i
      · subst e
        rw [g2 90 j (by omega), up2_at]
      · rw [g1 j (by omega) j2, up2_of (by omega)]
    · rw [g2 k j (by omega), up2_of (by omega)]
theorem m_goalsN {M : MM} {n : Nat} (hn : n ≤ 8) (h : M 83 5 = nI n) : ∃ M' : MM, f_X11_goalsAsNow M = some M' ∧ (∀ j, j < n → M' 93 j = M 90 j) ∧ ∀ k j, ¬ (k = 93 ∧ j < n) → M' k j = M k j := by
  obtain ⟨M', g0, g1, g2⟩ := m_goals hn n 0 FU M h (by omega) (by have := FU_eq; omega)
  exact ⟨M', g0, fun j hj => g1 j (by omega) hj, fun k j r => g2 k j (by omega)⟩
theorem m_goesN {M : MM} {n : Nat} (hn : n ≤ 8) (h : M 83 5 = nI n) : ∃ M' : MM, f_X11_goes M = some M' ∧ (∀ j, j < n → M' 90 j = M 93 j) ∧ ∀ k j, ¬ (k = 90 ∧ j < n) → M' k j = M k j := by
  obtain ⟨M', g0, g1, g2⟩ := m_goes hn n 0 FU M h (by omega) (by have := FU_eq; omega)
  exact ⟨M', g0, fun j hj => g1 j (by omega) hj, fun k j r => g2 k j (by omega)⟩
/-- some moves, one behind another, on heights -/
def apM (mb mh : Nat → Nat) (a : Nat → Nat) : Nat → Nat → Nat
  | 0 => a
  | i + 1 => fun j => if j = mb i then mh i else apM mb mh a i j
theorem apM_le {mb mh a : Nat → Nat} : ∀ i, (∀ j, a j ≤ 9) → (∀ j, j < i → mh j ≤ 9) → ∀ j, apM mb mh a i j ≤ 9
  | 0, h, _, j => h j
  | i + 1, h, h2, j => by
    have := apM_le (mb := mb) i h (fun j hj => h2 j (by omega)) j
    have := h2 i (by omega)
    unfold apM
    split <;> omega
