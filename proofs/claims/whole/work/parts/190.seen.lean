/-- what is seen, from the front on: of c battens from i on -/
def snS (e : Nat → Nat) : Nat → Nat → Int32 → Nat → Int32
  | 0, _, set, _ => set
  | c + 1, i, set, b => if e i < b then snS e c (i + 1) (set ||| sl32 1 (nI i)) (e i) else snS e c (i + 1) set b
theorem c_seen {M : MM} {n : Nat} {kd ld br ht dr : Nat → Nat} {hd tr : Nat} (h : CLo M n kd ld br ht dr hd tr) (R : Rng n kd ld br ht dr hd tr) {k1 : Nat} {a : Nat → Nat} (ha : ∀ j, j < 8 → M k1 j = nI (a j) ∧ a j ≤ 9) : ∀ (d i fuel : Nat) (set : Int32) (b : Nat), i + d = n → d < fuel → b ≤ 9 → g_X1_seenAt_13 M k1 fuel set (nI b) (nI i) = some (snS (fun j => a j - dr j) d i set b) := by
  have n8 := R.1
  intro d
  induction d with
  | zero =>
    intro i fuel set b h1 h2 h3
    obtain ⟨f, rfl⟩ : ∃ f, fuel = f + 1 := ⟨fuel - 1, by omega⟩
    obtain rfl : i = n := by omega
    rw [g_X1_seenAt_13, h.1, if_pos (nI_le (Nat.le_refl i) (by omega))]
    rfl
  | succ d ih =>
    intro i fuel set b h1 h2 h3
    obtain ⟨f, rfl⟩ : ∃ f, fuel = f + 1 := ⟨fuel - 1, by omega⟩
    have hi : i < 8 := by omega
    obtain ⟨a1, a2⟩ := ha i hi
    rw [g_X1_seenAt_13, h.1, if_neg (nI_ge (by omega) (by omega)), if_pos (ib_ok hi (by omega)), nI_clamp (by omega), a1, c_edge h R hi a2]
    simp only [br_s, nm_eq, show nI i + (1 : Int32) = nI (i + 1) from nI_1 i]
    unfold snS
    by_cases q : a i - dr i < b
    · rw [if_neg (nI_ge q (by omega)), if_pos q]
      exact ih (i + 1) f _ _ (by omega) (by omega) (by omega)
    · rw [if_pos (nI_le (by omega) (by omega)), if_neg q]
      exact ih (i + 1) f _ _ (by omega) (by omega) h3
theorem m_seen {M : MM} {n : Nat} {kd ld br ht dr : Nat → Nat} {hd tr : Nat} (h : MLo M n kd ld br ht dr hd tr) (R : Rng n kd ld br ht dr hd tr) : ∀ (d i fuel : Nat) (set : Int32) (b : Nat), i + d = n → d < fuel → b ≤ 9 → g_X11_seenNow_9 M fuel set (nI b) (nI i) = some (snS (fun j => ht j - dr j) d i set b) := by
  have n8 := R.1
  intro d
  induction d with
  | zero =>
    intro i fuel set b h1 h2 h3
    obtain ⟨f, rfl⟩ : ∃ f, fuel = f + 1 := ⟨fuel - 1, by omega⟩
    obtain rfl : i = n := by omega
    rw [g_X11_seenNow_9, h.1, if_pos (nI_le (Nat.le_refl i) (by omega))]
    rfl
  | succ d ih =>
    intro i fuel set b h1 h2 h3
    obtain ⟨f, rfl⟩ : ∃ f, fuel = f + 1 := ⟨fuel - 1, by omega⟩
    have hi : i < 8 := by omega
    have hr := R.2.1 i hi
    rw [g_X11_seenNow_9, h.1, if_neg (nI_ge (by omega) (by omega)), m_edge h R hi]
    simp only [br_s, nm_eq, show nI i + (1 : Int32) = nI (i + 1) from nI_1 i]
    unfold snS
    by_cases q : ht i - dr i < b
    · rw [if_neg (nI_ge q (by omega)), if_pos q]
      exact ih (i + 1) f _ _ (by omega) (by omega) (by omega)
    · rw [if_pos (nI_le (by omega) (by omega)), if_neg q]
      exact ih (i + 1) f _ _ (by omega) (by omega) h3
theorem c_seenAt {M : MM} {n : Nat} {kd ld br ht dr : Nat → Nat} {hd tr : Nat} (h : CLo M n kd ld br ht dr hd tr) (R : Rng n kd ld br ht dr hd tr) {k1 : Nat} {a : Nat → Nat} (ha : ∀ j, j < 8 → M k1 j = nI (a j) ∧ a j ≤ 9) : f_X1_seenAt M k1 = some (snS (fun j => a j - dr j) n 0 0 tr) := by
  unfold f_X1_seenAt
  rw [nm_eq, h.2.2.2.2.2.2.2]
  exact c_seen h R ha n 0 FU 0 tr (by omega) (by have := R.1; have : FU = 7000 := rfl; omega) R.2.2.2
theorem m_seenNow {M : MM} {n : Nat} {kd ld br ht dr : Nat → Nat} {hd tr : Nat} (h : MLo M n kd ld br ht dr hd tr) (R : Rng n kd ld br ht dr hd tr) : f_X11_seenNow M = some (snS (fun j => ht j - dr j) n 0 0 tr) := by
  unfold f_X11_seenNow
  rw [nm_eq, h.2.2.2.2.2.2.2]
  exact m_seen h R n 0 FU 0 tr (by omega) (by have := R.1; have : FU = 7000 := rfl; omega) R.2.2.2
theorem LoI.ha {M : MM} {n : Nat} {kd ld br ht dr : Nat → Nat} {hd tr : Nat} (h : LoI M n kd ld br ht dr hd tr) : ∀ j, j < 8 → M 26 j = nI (ht j) ∧ ht j ≤ 9 := fun j hj => ⟨h.hC hj, (h.rg hj).2.2.2.1⟩
theorem s_seen : St_seen Inv := by
  intro M h
  obtain ⟨n, kd, ld, br, ht, dr, hd, tr, hL, hS, h3, h4, h5, h6⟩ := id h
  by_cases hn : n = 0
  · subst hn
    exact ⟨-3, by simp [f_X10_seen, hL.n1, nI_0], by simp [f_X11_seen, hL.n2, nI_0], h⟩
  · have hz : ¬ nI n = 0 := nI_n0 (by omega) (by have := hL.n8; omega)
    exact ⟨_, by rw [f_X10_seen, hL.n1, if_neg hz, c_seenAt hL.1 hL.2.2.1 hL.ha]; rfl, by rw [f_X11_seen, hL.n2, if_neg hz, m_seenNow hL.2.1 hL.2.2.1]; rfl, h⟩
/-- the first of c battens from a on whose edge is at most t -/
def hdS (e : Nat → Nat) (t : Nat) : Nat → Nat → Int32
  | 0, _ => -9
  | c + 1, a => if e a ≤ t then nI a else hdS e t c (a + 1)
theorem c_hid {M : MM} {n : Nat} {kd ld br ht dr : Nat → Nat} {hd tr : Nat} (h : LoI M n kd ld br ht dr hd tr) {b : Nat} (hb : b < 8) {t : Nat} (ht9 : t ≤ 9) : ∀ (d a fuel : Nat), a + d = b → d < fuel → g_X1_hiderOf_31 M fuel (nI b) (nI t) (nI a) = some (hdS (fun j => ht j - dr j) t d a) := by
  intro d
  induction d with
  | zero =>
    intro a fuel h1 h2
    obtain ⟨f, rfl⟩ : ∃ f, fuel = f + 1 := ⟨fuel - 1, by omega⟩
    obtain rfl : a = b := by omega
    rw [g_X1_hiderOf_31, if_pos (nI_le (Nat.le_refl a) (by omega))]
    rfl
  | succ d ih =>
    intro a fuel h1 h2
    obtain ⟨f, rfl⟩ : ∃ f, fuel = f + 1 := ⟨fuel - 1, by omega⟩
    have ha : a < 8 := by omega
    have hr := h.rg ha
    rw [g_X1_hiderOf_31, if_neg (nI_ge (by omega) (by omega)), if_pos (ib_ok ha (by omega)), nI_clamp (by omega), h.hC ha, c_edge h.1 h.2.2.1 ha hr.2.2.2.1]
    simp only [br_s, show nI a + (1 : Int32) = nI (a + 1) from nI_1 a]
    unfold hdS
    by_cases q : ht a - dr a ≤ t
    · rw [if_neg (nI_nlt q (by omega)), if_pos q]
    · rw [if_pos (nI_lt (by omega) (by omega)), if_neg q]
      exact ih (a + 1) f (by omega) (by omega)
theorem m_hid {M : MM} {n : Nat} {kd ld br ht dr : Nat → Nat} {hd tr : Nat} (h : LoI M n kd ld br ht dr hd tr) {b : Nat} (hb : b < 8) : ∀ (d a fuel : Nat), a + d = b → d < fuel → g_X11_hides_12 M fuel (nI b) (nI a) = some (if ht b - dr b < tr then hdS (fun j => ht j - dr j) (ht b - dr b) d a else -9) := by
  have hrb := h.rg hb
  have ht9 := h.t9
  intro d
  induction d with
  | zero =>
    intro a fuel h1 h2
    obtain ⟨f, rfl⟩ : ∃ f, fuel = f + 1 := ⟨fuel - 1, by omega⟩
    obtain rfl : a = b := by omega
    rw [g_X11_hides_12, if_pos (nI_le (Nat.le_refl a) (by omega))]
    unfold hdS
    split <;> rfl
  | succ d ih =>
    intro a fuel h1 h2
    obtain ⟨f, rfl⟩ : ∃ f, fuel = f + 1 := ⟨fuel - 1, by omega⟩
    have ha : a < 8 := by omega
    have hr := h.rg ha
    rw [g_X11_hides_12, if_neg (nI_ge (by omega) (by omega)), m_edge h.2.1 h.2.2.1 hb, m_edge h.2.1 h.2.2.1 ha, h.tM]
    simp only [br_s, show nI a + (1 : Int32) = nI (a + 1) from nI_1 a]
    have ih' := ih (a + 1) f (by omega) (by omega)
    by_cases qb : ht b - dr b < tr
    · rw [if_pos qb] at ih'
      rw [if_neg (nI_ge qb (by omega)), if_pos qb]
      unfold hdS
      by_cases q : ht a - dr a ≤ ht b - dr b
      · rw [if_neg (nI_nlt q (by omega)), if_pos q]
      · rw [if_pos (nI_lt (by omega) (by omega)), if_neg q]
        exact ih'
    · rw [if_neg qb] at ih'
      rw [if_pos (nI_le (by omega) (by omega)), if_neg qb]
      exact ih'
theorem s_hides : St_hides Inv := by
  intro M h a1
  obtain ⟨n, kd, ld, br, ht, dr, hd, tr, hL, hS, h3, h4, h5, h6⟩ := id h
  have n8 := hL.n8
  cases hin : hb n a1 with
  | false => exact ⟨-1, by simp [f_X10_hides, c_has hL.n1, hin, br_s, b2i0], by simp [f_X11_hides, m_has hL.n2, hin, br_s, b2i0], h⟩
  | true =>
    obtain ⟨b, hbn, rfl⟩ := hb_yes (by omega) hin
    have hb8 : b < 8 := by omega
    have hr := hL.rg hb8
    have t9 := hL.t9
    refine ⟨if ht b - dr b < tr then hdS (fun j => ht j - dr j) (ht b - dr b) b 0 else -9, ?_, ?_, h⟩
    · unfold f_X10_hides f_X1_hiderOf
      simp only [c_has hL.n1, hin, br_s, b2i0, Bool.true_eq_false, if_false, if_pos (ib_ok hb8 (show 8 ≤ 2 ^ 31 by omega)), nI_clamp (show b < 2 ^ 31 by omega), hL.hC hb8, c_edge hL.1 hL.2.2.1 hb8 hr.2.2.2.1, hL.tC]
      by_cases q : ht b - dr b < tr
      · rw [if_pos (nI_lt q (by omega)), if_pos q, show (0 : Int32) = nI 0 from rfl, c_hid hL hb8 (by omega) b 0 FU (by omega) (by have : FU = 7000 := rfl; omega)]
        rfl
      · rw [if_neg (nI_nlt (by omega) (by omega)), if_neg q]
        rfl
    · unfold f_X11_hides
      simp only [m_has hL.n2, hin, br_s, b2i0, Bool.true_eq_false, if_false]
      rw [show (0 : Int32) = nI 0 from rfl]
      exact m_hid hL hb8 b 0 FU (by omega) (by have : FU = 7000 := rfl; omega)
