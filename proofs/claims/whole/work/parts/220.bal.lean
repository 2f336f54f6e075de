-- bricks by which one is balanced
theorem min_lt (a v : Int32) : (mn32 a (9 : Int32) < v) ↔ ((9 : Int32) < v ∨ a < v) := by
  unfold mn32
  split
  · rename_i h
    constructor
    · intro q; exact Or.inl q
    · rintro (q | q)
      · exact q
      · exact Int32.lt_trans h q
  · rename_i h
    constructor
    · intro q; exact Or.inr q
    · rintro (q | q)
      · exact Int32.lt_of_le_of_lt (Int32.not_lt.mp h) q
      · exact q
def upf (f : Nat → Nat) (b v : Nat) : Nat → Nat := fun i => if i = b then v else f i
theorem upf_at (f : Nat → Nat) (b v : Nat) : upf f b v b = v := by unfold upf; rw [if_pos rfl]
theorem upf_ne (f : Nat → Nat) {b i : Nat} (v : Nat) (h : i ≠ b) : upf f b v i = f i := by unfold upf; rw [if_neg h]
section BAL
variable {n : Nat} {kd ld br ht dr : Nat → Nat} {hd tr : Nat}
theorem MLo.set88 {M Mr : MM} {b v : Nat} (h : MLo M n kd ld br ht dr hd tr) (a : ∀ k j, ¬ (k = 88 ∧ j = b) → Mr k j = M k j) (e : Mr 88 b = nI v) : MLo Mr n kd (upf ld b v) br ht dr hd tr := by
  refine ⟨by rw [a _ _ (by omega)]; exact h.1, fun j hj => by rw [a _ _ (by omega)]; exact h.2.1 j hj, fun j hj => by rw [a _ _ (by omega)]; exact h.2.2.1 j hj, fun j hj => ?_, fun j hj => by rw [a _ _ (by omega)]; exact h.2.2.2.2.1 j hj, fun j hj => by rw [a _ _ (by omega)]; exact h.2.2.2.2.2.1 j hj, by rw [a _ _ (by omega)]; exact h.2.2.2.2.2.2.1, by rw [a _ _ (by omega)]; exact h.2.2.2.2.2.2.2⟩
  by_cases q : j = b
  · rw [q, upf_at]; exact e
  · rw [upf_ne _ _ q, a _ _ (by omega)]; exact h.2.2.2.1 j hj
theorem MLo.set89 {M Mr : MM} {b v : Nat} (h : MLo M n kd ld br ht dr hd tr) (a : ∀ k j, ¬ (k = 89 ∧ j = b) → Mr k j = M k j) (e : Mr 89 b = nI v) : MLo Mr n kd ld (upf br b v) ht dr hd tr := by
  refine ⟨by rw [a _ _ (by omega)]; exact h.1, fun j hj => by rw [a _ _ (by omega)]; exact h.2.1 j hj, fun j hj => by rw [a _ _ (by omega)]; exact h.2.2.1 j hj, fun j hj => by rw [a _ _ (by omega)]; exact h.2.2.2.1 j hj, fun j hj => ?_, fun j hj => by rw [a _ _ (by omega)]; exact h.2.2.2.2.2.1 j hj, by rw [a _ _ (by omega)]; exact h.2.2.2.2.2.2.1, by rw [a _ _ (by omega)]; exact h.2.2.2.2.2.2.2⟩
  by_cases q : j = b
  · rw [q, upf_at]; exact e
  · rw [upf_ne _ _ q, a _ _ (by omega)]; exact h.2.2.2.2.1 j hj
theorem MLo.set87 {M Mr : MM} {b v : Nat} (h : MLo M n kd ld br ht dr hd tr) (a : ∀ k j, ¬ (k = 87 ∧ j = b) → Mr k j = M k j) (e : Mr 87 b = nI v) : MLo Mr n (upf kd b v) ld br ht dr hd tr := by
  refine ⟨by rw [a _ _ (by omega)]; exact h.1, fun j hj => ?_, fun j hj => by rw [a _ _ (by omega)]; exact h.2.2.1 j hj, fun j hj => by rw [a _ _ (by omega)]; exact h.2.2.2.1 j hj, fun j hj => by rw [a _ _ (by omega)]; exact h.2.2.2.2.1 j hj, fun j hj => by rw [a _ _ (by omega)]; exact h.2.2.2.2.2.1 j hj, by rw [a _ _ (by omega)]; exact h.2.2.2.2.2.2.1, by rw [a _ _ (by omega)]; exact h.2.2.2.2.2.2.2⟩
  by_cases q : j = b
  · rw [q, upf_at]; exact e
  · rw [upf_ne _ _ q, a _ _ (by omega)]; exact h.2.1 j hj
theorem Rng.s88 {b v : Nat} (R : Rng n kd ld br ht dr hd tr) (hv : v ≤ 9) : Rng n kd (upf ld b v) br ht dr hd tr := ⟨R.1, fun j hj => ⟨(R.2.1 j hj).1, by unfold upf; split; exact hv; exact (R.2.1 j hj).2.1, (R.2.1 j hj).2.2⟩, R.2.2⟩
theorem Rng.s89 {b v : Nat} (R : Rng n kd ld br ht dr hd tr) (hv : v ≤ 9) : Rng n kd ld (upf br b v) ht dr hd tr := ⟨R.1, fun j hj => ⟨(R.2.1 j hj).1, (R.2.1 j hj).2.1, by unfold upf; split; exact hv; exact (R.2.1 j hj).2.2.1, (R.2.1 j hj).2.2.2⟩, R.2.2⟩
theorem Rng.s87 {b v : Nat} (R : Rng n kd ld br ht dr hd tr) (hv : v ≤ 2) : Rng n (upf kd b v) ld br ht dr hd tr := ⟨R.1, fun j hj => ⟨by unfold upf; split; exact hv; exact (R.2.1 j hj).1, (R.2.1 j hj).2⟩, R.2.2⟩
theorem MM.same {M Mr : MM} {k b : Nat} (a : ∀ x j, ¬ (x = k ∧ j = b) → Mr x j = M x j) {v : Int32} (e : v = M k b) : up2 Mr k b v = M := by
  funext x j
  rw [up2_eq]
  by_cases q : x = k ∧ j = b
  · rw [if_pos q, q.1, q.2, e]
  · rw [if_neg q, a x j q]
/-- best so far: none, or a digit -/
def isB (x : Int32) : Prop := x = -9 ∨ ∃ a, a ≤ 9 ∧ x = nI a
theorem bal_L {M : MM} (hL : LoI M n kd ld br ht dr hd tr) (hst : M 23 3 = M 83 8) {b v : Nat} (hb : b < 8) (hv : v ≤ 9) : ∀ (d x f1 f2 : Nat) (best : Int32) (Mr : MM), x + d = 10 → d < f1 → d < f2 → isB best → (∀ k j, ¬ (k = 89 ∧ j = b) → Mr k j = M k j) → ∃ r : Int32, g_X1_balanceOf_33 M f1 (nI b) (nI v) (nI (br b)) (mn32 (nI (br b) + M 23 3) 9) best (nI x) = some r ∧ g_X11_balance_34 f2 Mr (nI b) (nI v) (nI (br b)) best (nI x) = some (r, M) := by
  have bo := ib_ok hb (show 8 ≤ 2 ^ 31 by omega)
  have cl := nI_clamp (show b < 2 ^ 31 by omega)
  obtain ⟨r1, r2, r3, r4, r5⟩ := hL.rg hb
  intro d
  induction d with
  | zero =>
    intro x f1 f2 best Mr h1 h2 h3 h4 ag
    obtain ⟨f1, rfl⟩ : ∃ f, f1 = f + 1 := ⟨f1 - 1, by omega⟩
    obtain ⟨f2, rfl⟩ : ∃ f, f2 = f + 1 := ⟨f2 - 1, by omega⟩
    obtain rfl : x = 10 := by omega
    have q9 : (9 : Int32) < nI 10 := by decide
    rw [g_X1_balanceOf_33, if_pos ((min_lt _ _).mpr (Or.inl q9)), g_X11_balance_34, if_pos q9, if_pos bo, cl, nm_eq, MM.same ag (hL.bM hb).symm]
    exact ⟨best, rfl, rfl⟩
  | succ d ih =>
    intro x f1 f2 best Mr h1 h2 h3 h4 ag
    obtain ⟨f1, rfl⟩ : ∃ f, f1 = f + 1 := ⟨f1 - 1, by omega⟩
    obtain ⟨f2, rfl⟩ : ∃ f, f2 = f + 1 := ⟨f2 - 1, by omega⟩
    have q9 : ¬ (9 : Int32) < nI x := nI_nlt (a := 9) (by omega) (by omega)
    rw [g_X1_balanceOf_33, g_X11_balance_34, if_neg q9, ag 83 8 (by omega), ← hst]
    by_cases qs : nI (br b) + M 23 3 < nI x
    · rw [if_pos ((min_lt _ _).mpr (Or.inr qs)), if_pos qs, if_pos bo, cl, nm_eq, MM.same ag (hL.bM hb).symm]
      exact ⟨best, rfl, rfl⟩
    · rw [if_neg (fun z => by rcases (min_lt _ _).mp z with z | z; exact q9 z; exact qs z), if_neg qs, if_pos bo, cl, nm_eq]
      generalize eM8 : up2 Mr 89 b (nI x) = M8
      have u8 : ∀ k j, ¬ (k = 89 ∧ j = b) → M8 k j = M k j := fun k j r => by rw [← eM8, up2_of r, ag k j r]
      have hp := m_pull (M := M8) (hL.2.1.set89 u8 (by rw [← eM8, up2_at])) (hL.2.2.1.s89 (b := b) (v := x) (by omega)) hb
      rw [upf_at] at hp
      have p9 : pullN (kd b) (ld b) x ≤ 9 := pullN_le r2 (by omega)
      rw [hp, br_s]
      have nx : nI x + (1 : Int32) = nI (x + 1) := nI_1 x
      have go : ∀ b2 : Int32, isB b2 → ∃ r : Int32, g_X1_balanceOf_33 M f1 (nI b) (nI v) (nI (br b)) (mn32 (nI (br b) + M 23 3) 9) b2 (nI (x + 1)) = some r ∧ g_X11_balance_34 f2 M8 (nI b) (nI v) (nI (br b)) b2 (nI (x + 1)) = some (r, M) := fun b2 hb2 => ih (x + 1) f1 f2 b2 M8 (by omega) (by omega) (by omega) hb2 u8
      have hx : isB (nI x) := Or.inr ⟨x, by omega, rfl⟩
      unfold g_X1_balanceOf_69 g_X11_balance_74
      simp only [nx, if_pos bo, cl, hL.kC hb, hL.lC hb, p10 M r1 r2 (show x ≤ 9 by omega), br_s]
      rcases h4 with rfl | ⟨a, ha, rfl⟩
      · by_cases qv : nI v < nI (pullN (kd b) (ld b) x)
        · simp [qv]; exact go _ (Or.inl rfl)
        · simp [qv]; exact go _ hx
      · have na : ¬ nI a = (-9 : Int32) := n9_d a (by omega)
        have ea : f_X11_apart M8 (nI x) (nI (br b)) = some (nI (adN x (br b))) := apart_n M8 (by omega) r3
        have eb : f_X11_apart M8 (nI a) (nI (br b)) = some (nI (adN a (br b))) := apart_n M8 ha r3
        simp only [na, if_false, ab_d a (by omega) (br b) (by omega), ab_d x (by omega) (br b) (by omega), ea, eb, br_s]
        by_cases qn : nI (adN a (br b)) ≤ nI (adN x (br b))
        · by_cases qv : nI v < nI (pullN (kd b) (ld b) x)
          · simp [qv, qn]; exact go _ (Or.inr ⟨a, ha, rfl⟩)
          · simp [qv, qn]; exact go _ (Or.inr ⟨a, ha, rfl⟩)
        · by_cases qv : nI v < nI (pullN (kd b) (ld b) x)
          · simp [qv, qn]; exact go _ (Or.inr ⟨a, ha, rfl⟩)
          · simp [qv, qn]; exact go _ hx
end BAL
theorem s_balance : St_balance Inv := by
  intro M h a1 a2
  obtain ⟨n, kd, ld, br, ht, dr, hd, tr, hL, hS, h3, h4, h5, h6⟩ := id h
  have n8 := hL.n8
  cases hin : hb n a1 with
  | false => exact ⟨-1, M, by simp [f_X10_balance, c_has hL.n1, hin, br_s, b2i0], by simp [f_X11_balance, m_has hL.n2, hin, br_s, b2i0], h⟩
  | true =>
    obtain ⟨j, hj, rfl⟩ := hb_yes (by omega) hin
    cases h2 : inR a2 0 9 with
    | false => exact ⟨-2, M, by simp [f_X10_balance, c_has hL.n1, hin, br_s, b2i0, q_X10_isDigit, h2], by simp [f_X11_balance, m_has hL.n2, hin, br_s, b2i0, q_X11_isDigit, h2], h⟩
    | true =>
      obtain ⟨v, v9, rfl⟩ := inR_yes0 (by omega) h2
      obtain ⟨r, e1, e2⟩ := bal_L hL hS.1 (b := j) (v := v) (by omega) v9 10 0 FU FU (-9) M (by omega) (by have := FU_eq; omega) (by have := FU_eq; omega) (Or.inl rfl) (fun _ _ _ => rfl)
      refine ⟨r, M, ?_, ?_, h⟩
      · unfold f_X10_balance f_X1_balanceOf
        rw [c_has hL.n1, hin, br_s, if_neg (by decide), q_X10_isDigit, h2, br_s, if_neg (by decide), if_pos (ib_ok (by omega) (by omega)), nI_clamp (by omega), hL.bC (by omega), nm_eq, nm_eq]
        rw [show (0 : Int32) = nI 0 from rfl, e1, br_s]
      · unfold f_X11_balance
        rw [m_has hL.n2, hin, br_s, if_neg (by decide), q_X11_isDigit, h2, br_s, if_neg (by decide), if_pos (ib_ok (by omega) (by omega)), nI_clamp (by omega), hL.bM (by omega), nm_eq]
        exact e2
