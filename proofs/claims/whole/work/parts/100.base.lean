-- numbers and the pure functions' own words
theorem nl_lit (n : Nat) : (OfNat.ofNat n : Int32) = nI n := rfl
theorem nm_eq {α β : Type} (a : α) (f : α → β) : nm a f = f a := rfl
theorem br_s {σ τ : Type} (x : σ) (f : σ → Option τ) : br (some x) f = f x := rfl
theorem bi_s {τ : Type} (r : Int32) (M : MM) (f : Int32 → MM → Option τ) : bi (some (r, M)) f = f r M := rfl
theorem bl_s {τ : Type} (r : Int64) (M : MM) (f : Int64 → MM → Option τ) : bl (some (r, M)) f = f r M := rfl
theorem ib_n {a n : Nat} (h : a < 2 ^ 31) : ib (nI a) n = decide (a < n) := by
  unfold ib
  rw [nI_clamp h]
  have h0 : ¬ nI a < 0 := nI_pos h
  by_cases q : a < n
  · have q2 : ¬ n ≤ a := by omega
    simp [h0, q, q2]
  · have q2 : n ≤ a := by omega
    simp [h0, q, q2]
theorem ib_ok {a n : Nat} (h : a < n) (hn : n ≤ 2 ^ 31) : ib (nI a) n = true := by
  rw [ib_n (by omega)]
  simp [h]
theorem up2_eq (M : MM) (k j : Nat) (v : Int32) (a b : Nat) : up2 M k j v a b = if a = k ∧ b = j then v else M a b := by
  unfold up2 upR
  by_cases h : a = k
  · subst h
    by_cases h2 : b = j
    · subst h2
      simp [upd]
    · simp [upd, h2]
  · simp [h]
theorem up2_ne {M : MM} {k j : Nat} {v : Int32} {a : Nat} (h : a ≠ k) : up2 M k j v a = M a := by
  unfold up2 upR
  simp [h]
theorem upR_eq (M : MM) (k : Nat) (r : Nat → Int32) (a : Nat) : upR M k r a = if a = k then r else M a := rfl
theorem upR_ne {M : MM} {k : Nat} {r : Nat → Int32} {a : Nat} (h : a ≠ k) : upR M k r a = M a := by
  unfold upR
  simp [h]
theorem upR_at (M : MM) (k : Nat) (r : Nat → Int32) : upR M k r k = r := by simp [upR]
theorem cpy8 {f g : Nat → Int32} {j : Nat} (h : j < 8) : va_cpy f g 0 0 8 j = f j := by
  unfold va_cpy
  simp [h]
theorem nI_inj {a b : Nat} (ha : a < 2 ^ 31) (hb : b < 2 ^ 31) (h : nI a = nI b) : a = b := (nI_eq ha hb).mp h
theorem nI_nn {a : Nat} (h : a < 2 ^ 31) : 0 ≤ nI a := nI_pos' h
-- a small number: x is a digit of at most m
def isD (m : Nat) (x : Int32) : Prop := ∃ a : Nat, a ≤ m ∧ x = nI a
theorem isD.mono {m k : Nat} {x : Int32} (h : isD m x) (hk : m ≤ k) : isD k x := by
  obtain ⟨a, h1, h2⟩ := h
  exact ⟨a, by omega, h2⟩
theorem isD_iff {m : Nat} {x : Int32} (hm : m < 2 ^ 31) : isD m x ↔ 0 ≤ x ∧ x ≤ nI m := by
  constructor
  · rintro ⟨a, h1, rfl⟩
    exact ⟨nI_nn (by omega), nI_le h1 hm⟩
  · rintro ⟨h1, h2⟩
    obtain ⟨j, hj, e⟩ := nI_of2 (n := m) (M := nI m) (nI_toInt hm) (Int32.not_lt.mpr h1) h2
    exact ⟨j, hj, e⟩
theorem w_within10 (M : MM) (v a b : Int32) : f_X10_within M v a b = some (if a ≤ v ∧ v ≤ b then 1 else 0) := by
  unfold f_X10_within
  by_cases h1 : v < a
  · have h2 : ¬ a ≤ v := Int32.not_le.mpr h1
    simp [h1, h2]
  · have h2 : a ≤ v := Int32.not_lt.mp h1
    by_cases h3 : b < v
    · have h4 : ¬ v ≤ b := Int32.not_le.mpr h3
      simp [h1, h2, h3, h4]
    · have h4 : v ≤ b := Int32.not_lt.mp h3
      simp [h1, h2, h3, h4]
theorem w_within11 (M : MM) (v a b : Int32) : f_X11_within M v a b = some (if a ≤ v ∧ v ≤ b then 1 else 0) := by
  unfold f_X11_within
  by_cases h1 : v < a
  · have h2 : ¬ a ≤ v := Int32.not_le.mpr h1
    simp [h1, h2]
  · have h2 : a ≤ v := Int32.not_lt.mp h1
    by_cases h3 : b < v
    · have h4 : ¬ v ≤ b := Int32.not_le.mpr h3
      simp [h1, h2, h3, h4]
    · have h4 : v ≤ b := Int32.not_lt.mp h3
      simp [h1, h2, h3, h4]
def inR (v : Int32) (a b : Nat) : Bool := decide (nI a ≤ v ∧ v ≤ nI b)
def b2i (b : Bool) : Int32 := if b = true then 1 else 0
theorem b2i0 (b : Bool) : (b2i b = 0) = (b = false) := by cases b <;> simp [b2i]
theorem inR_no {v : Int32} {a b : Nat} (h : inR v a b = false) : ¬ (nI a ≤ v ∧ v ≤ nI b) := by simpa [inR] using h
theorem inR_yes0 {v : Int32} {b : Nat} (hb : b < 2 ^ 31) (h : inR v 0 b = true) : ∃ j : Nat, j ≤ b ∧ v = nI j := by
  have h : nI 0 ≤ v ∧ v ≤ nI b := by simpa [inR] using h
  exact (isD_iff hb).mpr h
theorem w10 (M : MM) (v : Int32) (a b : Nat) : f_X10_within M v (OfNat.ofNat a) (OfNat.ofNat b) = some (b2i (inR v a b)) := by
  rw [w_within10]
  show some (if nI a ≤ v ∧ v ≤ nI b then (1 : Int32) else 0) = _
  unfold b2i inR
  by_cases h : nI a ≤ v ∧ v ≤ nI b
  · rw [if_pos h, if_pos (decide_eq_true h)]
  · rw [if_neg h, if_neg (fun q => h (of_decide_eq_true q))]
theorem w11 (M : MM) (v : Int32) (a b : Nat) : f_X11_within M v (OfNat.ofNat a) (OfNat.ofNat b) = some (b2i (inR v a b)) := by
  rw [w_within11]
  show some (if nI a ≤ v ∧ v ≤ nI b then (1 : Int32) else 0) = _
  unfold b2i inR
  by_cases h : nI a ≤ v ∧ v ≤ nI b
  · rw [if_pos h, if_pos (decide_eq_true h)]
  · rw [if_neg h, if_neg (fun q => h (of_decide_eq_true q))]
-- the digits' own arithmetic
def adN (l b : Nat) : Nat := (l - b) + (b - l)
def pullN (k l b : Nat) : Nat := if k = 0 then adN l b else if k = 1 then adN l b - 1 else adN l b / 2
theorem adN_le {l b : Nat} (h1 : l ≤ 9) (h2 : b ≤ 9) : adN l b ≤ 9 := by unfold adN; omega
theorem pullN_le {k l b : Nat} (h1 : l ≤ 9) (h2 : b ≤ 9) : pullN k l b ≤ 9 := by
  have := adN_le h1 h2
  unfold pullN
  split
  · omega
  · split <;> omega
theorem ab_d : ∀ l, l < 10 → ∀ b, b < 10 → ab32 (nI l - nI b) = nI (adN l b) := by decide +kernel
theorem p10_d : ∀ k, k < 3 → ∀ l, l < 10 → ∀ b, b < 10 → f_X10_pullOf (fun _ _ => 0) (nI k) (nI l) (nI b) = some (nI (pullN k l b)) := by decide +kernel
theorem p10 (M : MM) {k l b : Nat} (hk : k ≤ 2) (hl : l ≤ 9) (hb : b ≤ 9) : f_X10_pullOf M (nI k) (nI l) (nI b) = some (nI (pullN k l b)) := p10_d k (by omega) l (by omega) b (by omega)
theorem ed_d : ∀ h, h < 10 → ∀ d, d < 10 → mx32 (nI h - nI d) 0 = nI (h - d) := by decide +kernel
def q11 (k s : Int32) : Option Int32 := if k = (1 : Int32) then (if s ≤ 0 then some (0 : Int32) else some (s - (1 : Int32))) else (if k = 0 then some s else some (s / (2 : Int32)))
theorem p11_d : ∀ k, k < 3 → ∀ l, l < 10 → ∀ b, b < 10 → (if nI l ≤ nI b then (if nI k = (1 : Int32) then (if nI b - nI l ≤ 0 then some (0 : Int32) else some (nI b - nI l - (1 : Int32))) else (if nI k = 0 then some (nI b - nI l) else some ((nI b - nI l) / (2 : Int32)))) else (if nI k = (1 : Int32) then (if nI l - nI b ≤ 0 then some (0 : Int32) else some (nI l - nI b - (1 : Int32))) else (if nI k = 0 then some (nI l - nI b) else some ((nI l - nI b) / (2 : Int32))))) = some (nI (pullN k l b)) := by decide +kernel
theorem e11_d : ∀ h, h < 10 → ∀ d, d < 10 → (if nI h ≤ nI d then some (0 : Int32) else some (nI h - nI d)) = some (nI (h - d)) := by decide +kernel
-- what the class holds of its loft, what the reference holds of its own
def CLo (M : MM) (n : Nat) (kd ld br ht dr : Nat → Nat) (hd tr : Nat) : Prop := M 20 3 = nI n ∧ (∀ j, j < 8 → M 21 j = nI (kd j)) ∧ (∀ j, j < 8 → M 22 j = nI (dr j)) ∧ (∀ j, j < 8 → M 24 j = nI (ld j)) ∧ (∀ j, j < 8 → M 25 j = nI (br j)) ∧ (∀ j, j < 8 → M 26 j = nI (ht j)) ∧ M 23 4 = nI hd ∧ M 23 5 = nI tr
def MLo (M : MM) (n : Nat) (kd ld br ht dr : Nat → Nat) (hd tr : Nat) : Prop := M 83 5 = nI n ∧ (∀ j, j < 8 → M 87 j = nI (kd j)) ∧ (∀ j, j < 8 → M 91 j = nI (dr j)) ∧ (∀ j, j < 8 → M 88 j = nI (ld j)) ∧ (∀ j, j < 8 → M 89 j = nI (br j)) ∧ (∀ j, j < 8 → M 90 j = nI (ht j)) ∧ M 83 6 = nI hd ∧ M 83 7 = nI tr
def Rng (n : Nat) (kd ld br ht dr : Nat → Nat) (hd tr : Nat) : Prop := n ≤ 8 ∧ (∀ j, j < 8 → kd j ≤ 2 ∧ ld j ≤ 9 ∧ br j ≤ 9 ∧ ht j ≤ 9 ∧ dr j ≤ 3) ∧ hd ≤ 6 ∧ tr ≤ 9
section LO
variable {M : MM} {n : Nat} {kd ld br ht dr : Nat → Nat} {hd tr : Nat}
theorem c_pull (h : CLo M n kd ld br ht dr hd tr) (R : Rng n kd ld br ht dr hd tr) {j : Nat} (hj : j < 8) : f_X1_pull M (nI j) = some (nI (pullN (kd j) (ld j) (br j))) := by
  obtain ⟨h1, h2, h3, h4, h5, h6, h7, h8⟩ := h
  obtain ⟨r1, r2, r3, r4⟩ := R
  obtain ⟨a1, a2, a3, a4, a5⟩ := r2 j hj
  unfold f_X1_pull
  have hi : ib (nI j) 8 = true := ib_ok hj (by omega)
  rw [if_pos hi, if_pos hi, if_pos hi, nI_clamp (by omega), h2 j hj, h4 j hj, h5 j hj, p10 M a1 a2 a3]
  rfl
theorem c_edge (h : CLo M n kd ld br ht dr hd tr) (R : Rng n kd ld br ht dr hd tr) {j a : Nat} (hj : j < 8) (ha : a ≤ 9) : f_X1_edge M (nI j) (nI a) = some (nI (a - dr j)) := by
  obtain ⟨h1, h2, h3, h4, h5, h6, h7, h8⟩ := h
  obtain ⟨r1, r2, r3, r4⟩ := R
  obtain ⟨a1, a2, a3, a4, a5⟩ := r2 j hj
  unfold f_X1_edge
  rw [if_pos (ib_ok hj (by omega)), nI_clamp (by omega), h3 j hj]
  rw [ed_d a (by omega) (dr j) (by omega)]
theorem m_pull (h : MLo M n kd ld br ht dr hd tr) (R : Rng n kd ld br ht dr hd tr) {j : Nat} (hj : j < 8) : f_X11_pullOf M (nI j) = some (nI (pullN (kd j) (ld j) (br j))) := by
  obtain ⟨h1, h2, h3, h4, h5, h6, h7, h8⟩ := h
  obtain ⟨r1, r2, r3, r4⟩ := R
  obtain ⟨a1, a2, a3, a4, a5⟩ := r2 j hj
  have hi : ib (nI j) 8 = true := ib_ok hj (by omega)
  unfold f_X11_pullOf g_X11_pullOf_44
  simp only [if_pos hi, nI_clamp (show j < 2 ^ 31 by omega), h2 j hj, h4 j hj, h5 j hj]
  exact p11_d (kd j) (by omega) (ld j) (by omega) (br j) (by omega)
theorem m_edge (h : MLo M n kd ld br ht dr hd tr) (R : Rng n kd ld br ht dr hd tr) {j : Nat} (hj : j < 8) : f_X11_edgeOf M (nI j) = some (nI (ht j - dr j)) := by
  obtain ⟨h1, h2, h3, h4, h5, h6, h7, h8⟩ := h
  obtain ⟨r1, r2, r3, r4⟩ := R
  obtain ⟨a1, a2, a3, a4, a5⟩ := r2 j hj
  have hi : ib (nI j) 8 = true := ib_ok hj (by omega)
  unfold f_X11_edgeOf
  simp only [if_pos hi, nI_clamp (show j < 2 ^ 31 by omega), h3 j hj, h6 j hj]
  exact e11_d (ht j) (by omega) (dr j) (by omega)
-- which are there
def hb (n : Nat) (v : Int32) : Bool := decide (0 ≤ v ∧ v < nI n)
theorem hb_yes {n : Nat} {v : Int32} (hn : n < 2 ^ 31) (h : hb n v = true) : ∃ j : Nat, j < n ∧ v = nI j := by
  have h : 0 ≤ v ∧ v < nI n := by simpa [hb] using h
  obtain ⟨j, h1, h2⟩ := nI_of (Int32.not_lt.mpr h.1)
  subst h2
  exact ⟨j, (nI_ltI h1 hn).mp h.2, rfl⟩
theorem hb_in {n j : Nat} (hn : n < 2 ^ 31) (h : j < n) : hb n (nI j) = true := by
  have h1 : 0 ≤ nI j := nI_nn (by omega)
  have h2 : nI j < nI n := (nI_ltI (by omega) hn).mpr h
  simp [hb, h1, h2]
theorem c_has (h : M 20 3 = nI n) (v : Int32) : f_X1_has M v = some (b2i (hb n v)) := by
  unfold f_X1_has
  rw [h]
  by_cases h1 : v < 0
  · have h2 : ¬ 0 ≤ v := Int32.not_le.mpr h1
    simp [h1, h2, hb, b2i]
  · have h2 : 0 ≤ v := Int32.not_lt.mp h1
    by_cases h3 : nI n ≤ v
    · have h4 : ¬ v < nI n := Int32.not_lt.mpr h3
      simp [h1, h2, h3, h4, hb, b2i]
    · have h4 : v < nI n := Int32.not_le.mp h3
      simp [h1, h2, h3, h4, hb, b2i]
theorem m_has (h : M 83 5 = nI n) (v : Int32) : f_X11_isBatten M v = some (b2i (hb n v)) := by
  unfold f_X11_isBatten
  rw [h]
  by_cases h1 : v < 0
  · have h2 : ¬ 0 ≤ v := Int32.not_le.mpr h1
    simp [h1, h2, hb, b2i]
  · have h2 : 0 ≤ v := Int32.not_lt.mp h1
    by_cases h3 : nI n ≤ v
    · have h4 : ¬ v < nI n := Int32.not_lt.mpr h3
      simp [h1, h2, h3, h4, hb, b2i]
    · have h4 : v < nI n := Int32.not_le.mp h3
      simp [h1, h2, h3, h4, hb, b2i]
end LO
