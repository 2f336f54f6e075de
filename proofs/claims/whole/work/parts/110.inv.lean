theorem up2_of {M : MM} {k j : Nat} {v : Int32} {a b : Nat} (h : ¬ (a = k ∧ b = j)) : up2 M k j v a b = M a b := by rw [up2_eq, if_neg h]
theorem up2_at (M : MM) (k j : Nat) (v : Int32) : up2 M k j v k j = v := by rw [up2_eq, if_pos ⟨rfl, rfl⟩]
-- the invariant, by its pieces
def LoI (M : MM) (n : Nat) (kd ld br ht dr : Nat → Nat) (hd tr : Nat) : Prop := CLo M n kd ld br ht dr hd tr ∧ MLo M n kd ld br ht dr hd tr ∧ Rng n kd ld br ht dr hd tr ∧ (n = 0 ∨ (2 ≤ n ∧ 1 ≤ hd ∧ 1 ≤ tr))
def MsI (M : MM) : Prop := M 23 3 = M 83 8 ∧ M 0 11 = M 83 0 ∧ M 0 10 = M 83 1
def ShI (M : MM) : Prop := ∀ k, k < 4 → (M (2 + 2 * k) 1 = 0 ∨ M (2 + 2 * k) 1 = 1) ∧ M 84 k = (if M (2 + 2 * k) 1 = 0 then -9 else M (2 + 2 * k) 2) ∧ (M (2 + 2 * k) 1 = 1 → isD 2 (M (2 + 2 * k) 2)) ∧ M 85 k = M (2 + 2 * k) 3 ∧ ∃ L, L ≤ 60 ∧ M (2 + 2 * k) 3 = nI L ∧ ∀ i, i < L → M (3 + 2 * k) i = M 86 (60 * k + i)
def rigEq (M : MM) (r a o : Nat) : Prop := (∀ j, j < 8 → (M (r + 1) j = M a (o + 8 + j) ∧ isD 9 (M (r + 1) j)) ∧ (M (r + 2) j = M a (o + 16 + j) ∧ isD 9 (M (r + 2) j)) ∧ (M (r + 3) j = M a (o + j) ∧ isD 9 (M (r + 3) j))) ∧ M r 3 = M a (o + 24)
def PsI (M : MM) : Prop := ∃ p q, p ≤ 8 ∧ q < 8 ∧ M 27 1 = nI p ∧ M 27 2 = nI q ∧ M 83 21 = nI p ∧ ∀ i, i < p → rigEq M (29 + 4 * ((q + 8 - p + i) % 8)) 94 (25 * i)
def ImI (M : MM) : Prop := ∀ i, i < 2 → (M 19 i = 0 ∨ M 19 i = 1) ∧ M 95 i = M 19 i ∧ (M 19 i = 1 → rigEq M (11 + 4 * i) 96 (25 * i) ∧ M 97 i = M (11 + 4 * i) 4 ∧ M 98 i = M (11 + 4 * i) 5 ∧ (∃ a, 1 ≤ a ∧ a ≤ 6 ∧ M (11 + 4 * i) 4 = nI a) ∧ ∃ a, 1 ≤ a ∧ a ≤ 9 ∧ M (11 + 4 * i) 5 = nI a)
def RdI (M : MM) (n : Nat) : Prop := ∃ c, c ≤ 8 ∧ M 61 3 = nI c ∧ M 83 35 = nI c ∧ ∀ i, i < c → M 62 i = M 103 i ∧ (∃ b, b < n ∧ M 62 i = nI b) ∧ M 63 i = M 104 i ∧ M 64 i = M 105 i
def Inv (M : MM) : Prop := ∃ (n : Nat) (kd ld br ht dr : Nat → Nat) (hd tr : Nat), LoI M n kd ld br ht dr hd tr ∧ MsI M ∧ ShI M ∧ PsI M ∧ ImI M ∧ RdI M n
def relLo (k j : Nat) : Prop := (k = 20 ∧ j = 3) ∨ ((k = 21 ∨ k = 22) ∧ j < 8) ∨ (k = 23 ∧ (j = 4 ∨ j = 5)) ∨ (24 ≤ k ∧ k ≤ 26 ∧ j < 8) ∨ (k = 83 ∧ (j = 5 ∨ j = 6 ∨ j = 7)) ∨ (87 ≤ k ∧ k ≤ 91 ∧ j < 8)
def relMs (k j : Nat) : Prop := (k = 23 ∧ j = 3) ∨ (k = 83 ∧ (j = 8 ∨ j = 0 ∨ j = 1)) ∨ (k = 0 ∧ (j = 10 ∨ j = 11))
def relSh (k : Nat) : Prop := (2 ≤ k ∧ k ≤ 9) ∨ (84 ≤ k ∧ k ≤ 86)
def relPs (k j : Nat) : Prop := (k = 27 ∧ (j = 1 ∨ j = 2)) ∨ (29 ≤ k ∧ k ≤ 60) ∨ (k = 83 ∧ j = 21) ∨ k = 94
def relIm (k : Nat) : Prop := (11 ≤ k ∧ k ≤ 19) ∨ (95 ≤ k ∧ k ≤ 98)
def relRd (k j : Nat) : Prop := (k = 61 ∧ j = 3) ∨ (62 ≤ k ∧ k ≤ 64) ∨ (k = 83 ∧ j = 35) ∨ (103 ≤ k ∧ k ≤ 105)
theorem CLo.cong {M M' : MM} {n : Nat} {kd ld br ht dr : Nat → Nat} {hd tr : Nat} (h : CLo M n kd ld br ht dr hd tr) (a : ∀ k j, k < 83 → relLo k j → M' k j = M k j) : CLo M' n kd ld br ht dr hd tr := by
  obtain ⟨h1, h2, h3, h4, h5, h6, h7, h8⟩ := h
  unfold relLo at a
  exact ⟨(a 20 3 (by omega) (by omega)).trans h1, fun j hj => (a 21 j (by omega) (by omega)).trans (h2 j hj), fun j hj => (a 22 j (by omega) (by omega)).trans (h3 j hj), fun j hj => (a 24 j (by omega) (by omega)).trans (h4 j hj), fun j hj => (a 25 j (by omega) (by omega)).trans (h5 j hj), fun j hj => (a 26 j (by omega) (by omega)).trans (h6 j hj), (a 23 4 (by omega) (by omega)).trans h7, (a 23 5 (by omega) (by omega)).trans h8⟩
theorem MLo.cong {M M' : MM} {n : Nat} {kd ld br ht dr : Nat → Nat} {hd tr : Nat} (h : MLo M n kd ld br ht dr hd tr) (a : ∀ k j, 83 ≤ k → relLo k j → M' k j = M k j) : MLo M' n kd ld br ht dr hd tr := by
  obtain ⟨h1, h2, h3, h4, h5, h6, h7, h8⟩ := h
  unfold relLo at a
  exact ⟨(a 83 5 (by omega) (by omega)).trans h1, fun j hj => (a 87 j (by omega) (by omega)).trans (h2 j hj), fun j hj => (a 91 j (by omega) (by omega)).trans (h3 j hj), fun j hj => (a 88 j (by omega) (by omega)).trans (h4 j hj), fun j hj => (a 89 j (by omega) (by omega)).trans (h5 j hj), fun j hj => (a 90 j (by omega) (by omega)).trans (h6 j hj), (a 83 6 (by omega) (by omega)).trans h7, (a 83 7 (by omega) (by omega)).trans h8⟩
theorem LoI.cong {M M' : MM} {n : Nat} {kd ld br ht dr : Nat → Nat} {hd tr : Nat} (h : LoI M n kd ld br ht dr hd tr) (a : ∀ k j, relLo k j → M' k j = M k j) : LoI M' n kd ld br ht dr hd tr := ⟨h.1.cong (fun k j _ => a k j), h.2.1.cong (fun k j _ => a k j), h.2.2.1, h.2.2.2⟩
theorem MsI.cong {M M' : MM} (h : MsI M) (a : ∀ k j, relMs k j → M' k j = M k j) : MsI M' := by
  obtain ⟨h1, h2, h3⟩ := h
  unfold relMs at a
  exact ⟨by rw [a 23 3 (by omega), a 83 8 (by omega)]; exact h1, by rw [a 0 11 (by omega), a 83 0 (by omega)]; exact h2, by rw [a 0 10 (by omega), a 83 1 (by omega)]; exact h3⟩
theorem ShI.cong {M M' : MM} (h : ShI M) (a : ∀ k j, relSh k → M' k j = M k j) : ShI M' := by
  intro k hk
  unfold relSh at a
  obtain ⟨h1, h2, h3, h4, L, h5, h6, h7⟩ := h k hk
  rw [a (2 + 2 * k) 1 (by omega), a 84 k (by omega), a (2 + 2 * k) 2 (by omega), a 85 k (by omega), a (2 + 2 * k) 3 (by omega)]
  exact ⟨h1, h2, h3, h4, L, h5, h6, fun i hi => by rw [a (3 + 2 * k) i (by omega), a 86 (60 * k + i) (by omega)]; exact h7 i hi⟩
theorem rigEq.cong {M M' : MM} {r o : Nat} {a : Nat} (h : rigEq M r a o) (e1 : ∀ k j, r ≤ k → k ≤ r + 3 → M' k j = M k j) (e2 : ∀ j, M' a j = M a j) : rigEq M' r a o := by
  refine ⟨fun j hj => ?_, by rw [e1 r 3 (by omega) (by omega), e2]; exact h.2⟩
  rw [e1 (r + 1) j (by omega) (by omega), e1 (r + 2) j (by omega) (by omega), e1 (r + 3) j (by omega) (by omega), e2, e2, e2]
  exact h.1 j hj
theorem PsI.cong {M M' : MM} (h : PsI M) (a : ∀ k j, relPs k j → M' k j = M k j) : PsI M' := by
  unfold relPs at a
  obtain ⟨p, q, h1, h2, h3, h4, h5, h6⟩ := h
  refine ⟨p, q, h1, h2, by rw [a 27 1 (by omega)]; exact h3, by rw [a 27 2 (by omega)]; exact h4, by rw [a 83 21 (by omega)]; exact h5, fun i hi => ?_⟩
  have hm : (q + 8 - p + i) % 8 < 8 := Nat.mod_lt _ (by omega)
  exact (h6 i hi).cong (fun k j g1 g2 => a k j (by omega)) (fun j => a 94 j (by omega))
theorem ImI.cong {M M' : MM} (h : ImI M) (a : ∀ k j, relIm k → M' k j = M k j) : ImI M' := by
  intro i hi
  unfold relIm at a
  obtain ⟨h1, h2, h3⟩ := h i hi
  rw [a 19 i (by omega), a 95 i (by omega), a 97 i (by omega), a 98 i (by omega), a (11 + 4 * i) 4 (by omega), a (11 + 4 * i) 5 (by omega)]
  exact ⟨h1, h2, fun q => ⟨(h3 q).1.cong (fun k j g1 g2 => a k j (by omega)) (fun j => a 96 j (by omega)), (h3 q).2⟩⟩
theorem RdI.cong {M M' : MM} {n : Nat} (h : RdI M n) (a : ∀ k j, relRd k j → M' k j = M k j) : RdI M' n := by
  unfold relRd at a
  obtain ⟨c, h1, h2, h3, h4⟩ := h
  refine ⟨c, h1, by rw [a 61 3 (by omega)]; exact h2, by rw [a 83 35 (by omega)]; exact h3, fun i hi => ?_⟩
  rw [a 62 i (by omega), a 63 i (by omega), a 64 i (by omega), a 103 i (by omega), a 104 i (by omega), a 105 i (by omega)]
  exact h4 i hi
-- scratch: rows and slots that no piece speaks of
def scrP (k j : Nat) : Prop := (65 ≤ k ∧ k ≤ 82) ∨ k = 92 ∨ k = 93 ∨ (99 ≤ k ∧ k ≤ 102) ∨ (k = 83 ∧ ((14 ≤ j ∧ j ≤ 18) ∨ (28 ≤ j ∧ j ≤ 32)))
theorem Inv.scr {M M' : MM} (h : Inv M) (a : ∀ k j, ¬ scrP k j → M' k j = M k j) : Inv M' := by
  obtain ⟨n, kd, ld, br, ht, dr, hd, tr, h1, h2, h3, h4, h5, h6⟩ := h
  refine ⟨n, kd, ld, br, ht, dr, hd, tr, h1.cong (fun k j r => a k j ?_), h2.cong (fun k j r => a k j ?_), h3.cong (fun k j r => a k j ?_), h4.cong (fun k j r => a k j ?_), h5.cong (fun k j r => a k j ?_), h6.cong (fun k j r => a k j ?_)⟩
  · unfold relLo at r; unfold scrP; omega
  · unfold relMs at r; unfold scrP; omega
  · unfold relSh at r; unfold scrP; omega
  · unfold relPs at r; unfold scrP; omega
  · unfold relIm at r; unfold scrP; omega
  · unfold relRd at r; unfold scrP; omega
-- the loft's pieces that change, others stay
theorem LoI.chg {M M' : MM} {n : Nat} {kd ld br ht dr ld' br' ht' : Nat → Nat} {hd tr hd' tr' : Nat} (h : LoI M n kd ld br ht dr hd tr) (a : ∀ k j, ((k = 20 ∧ j = 3) ∨ ((k = 21 ∨ k = 22 ∨ k = 87 ∨ k = 91) ∧ j < 8) ∨ (k = 83 ∧ j = 5)) → M' k j = M k j) (eL : ∀ j, j < 8 → M' 24 j = nI (ld' j) ∧ M' 88 j = nI (ld' j) ∧ ld' j ≤ 9) (eB : ∀ j, j < 8 → M' 25 j = nI (br' j) ∧ M' 89 j = nI (br' j) ∧ br' j ≤ 9) (eH : ∀ j, j < 8 → M' 26 j = nI (ht' j) ∧ M' 90 j = nI (ht' j) ∧ ht' j ≤ 9) (e4 : M' 23 4 = nI hd' ∧ M' 83 6 = nI hd' ∧ hd' ≤ 6 ∧ (n = 0 ∨ 1 ≤ hd')) (e5 : M' 23 5 = nI tr' ∧ M' 83 7 = nI tr' ∧ tr' ≤ 9 ∧ (n = 0 ∨ 1 ≤ tr')) : LoI M' n kd ld' br' ht' dr hd' tr' := by
  obtain ⟨⟨c1, c2, c3, -⟩, ⟨m1, m2, m3, -⟩, ⟨r1, r2, -⟩, r5⟩ := h
  refine ⟨⟨(a 20 3 (by omega)).trans c1, fun j hj => (a 21 j (by omega)).trans (c2 j hj), fun j hj => (a 22 j (by omega)).trans (c3 j hj), fun j hj => (eL j hj).1, fun j hj => (eB j hj).1, fun j hj => (eH j hj).1, e4.1, e5.1⟩, ⟨(a 83 5 (by omega)).trans m1, fun j hj => (a 87 j (by omega)).trans (m2 j hj), fun j hj => (a 91 j (by omega)).trans (m3 j hj), fun j hj => (eL j hj).2.1, fun j hj => (eB j hj).2.1, fun j hj => (eH j hj).2.1, e4.2.1, e5.2.1⟩, ⟨r1, fun j hj => ⟨(r2 j hj).1, (eL j hj).2.2, (eB j hj).2.2, (eH j hj).2.2, (r2 j hj).2.2.2.2⟩, e4.2.2.1, e5.2.2.1⟩, ?_⟩
  have h4 := e4.2.2.2
  have h5 := e5.2.2.2
  omega
section LOA
variable {M : MM} {n : Nat} {kd ld br ht dr : Nat → Nat} {hd tr : Nat}
theorem LoI.n1 (h : LoI M n kd ld br ht dr hd tr) : M 20 3 = nI n := h.1.1
theorem LoI.n2 (h : LoI M n kd ld br ht dr hd tr) : M 83 5 = nI n := h.2.1.1
theorem LoI.kC (h : LoI M n kd ld br ht dr hd tr) {j : Nat} (hj : j < 8) : M 21 j = nI (kd j) := h.1.2.1 j hj
theorem LoI.kM (h : LoI M n kd ld br ht dr hd tr) {j : Nat} (hj : j < 8) : M 87 j = nI (kd j) := h.2.1.2.1 j hj
theorem LoI.dC (h : LoI M n kd ld br ht dr hd tr) {j : Nat} (hj : j < 8) : M 22 j = nI (dr j) := h.1.2.2.1 j hj
theorem LoI.dM (h : LoI M n kd ld br ht dr hd tr) {j : Nat} (hj : j < 8) : M 91 j = nI (dr j) := h.2.1.2.2.1 j hj
theorem LoI.lC (h : LoI M n kd ld br ht dr hd tr) {j : Nat} (hj : j < 8) : M 24 j = nI (ld j) := h.1.2.2.2.1 j hj
theorem LoI.lM (h : LoI M n kd ld br ht dr hd tr) {j : Nat} (hj : j < 8) : M 88 j = nI (ld j) := h.2.1.2.2.2.1 j hj
theorem LoI.bC (h : LoI M n kd ld br ht dr hd tr) {j : Nat} (hj : j < 8) : M 25 j = nI (br j) := h.1.2.2.2.2.1 j hj
theorem LoI.bM (h : LoI M n kd ld br ht dr hd tr) {j : Nat} (hj : j < 8) : M 89 j = nI (br j) := h.2.1.2.2.2.2.1 j hj
theorem LoI.hC (h : LoI M n kd ld br ht dr hd tr) {j : Nat} (hj : j < 8) : M 26 j = nI (ht j) := h.1.2.2.2.2.2.1 j hj
theorem LoI.hM (h : LoI M n kd ld br ht dr hd tr) {j : Nat} (hj : j < 8) : M 90 j = nI (ht j) := h.2.1.2.2.2.2.2.1 j hj
theorem LoI.aC (h : LoI M n kd ld br ht dr hd tr) : M 23 4 = nI hd := h.1.2.2.2.2.2.2.1
theorem LoI.aM (h : LoI M n kd ld br ht dr hd tr) : M 83 6 = nI hd := h.2.1.2.2.2.2.2.2.1
theorem LoI.tC (h : LoI M n kd ld br ht dr hd tr) : M 23 5 = nI tr := h.1.2.2.2.2.2.2.2
theorem LoI.tM (h : LoI M n kd ld br ht dr hd tr) : M 83 7 = nI tr := h.2.1.2.2.2.2.2.2.2
theorem LoI.rg (h : LoI M n kd ld br ht dr hd tr) {j : Nat} (hj : j < 8) : kd j ≤ 2 ∧ ld j ≤ 9 ∧ br j ≤ 9 ∧ ht j ≤ 9 ∧ dr j ≤ 3 := h.2.2.1.2.1 j hj
theorem LoI.n8 (h : LoI M n kd ld br ht dr hd tr) : n ≤ 8 := h.2.2.1.1
theorem LoI.a6 (h : LoI M n kd ld br ht dr hd tr) : hd ≤ 6 := h.2.2.1.2.2.1
theorem LoI.t9 (h : LoI M n kd ld br ht dr hd tr) : tr ≤ 9 := h.2.2.1.2.2.2
theorem LoI.ps (h : LoI M n kd ld br ht dr hd tr) : n = 0 ∨ (2 ≤ n ∧ 1 ≤ hd ∧ 1 ≤ tr) := h.2.2.2
/-- loads, bricks, heights, hands and trim as they were, where nothing of them changed -/
theorem LoI.eL (h : LoI M n kd ld br ht dr hd tr) {M' : MM} (a : ∀ k j, (k = 24 ∨ k = 88) → j < 8 → M' k j = M k j) : ∀ j, j < 8 → M' 24 j = nI (ld j) ∧ M' 88 j = nI (ld j) ∧ ld j ≤ 9 := fun j hj => ⟨(a 24 j (by omega) hj).trans (h.lC hj), (a 88 j (by omega) hj).trans (h.lM hj), (h.rg hj).2.1⟩
theorem LoI.eB (h : LoI M n kd ld br ht dr hd tr) {M' : MM} (a : ∀ k j, (k = 25 ∨ k = 89) → j < 8 → M' k j = M k j) : ∀ j, j < 8 → M' 25 j = nI (br j) ∧ M' 89 j = nI (br j) ∧ br j ≤ 9 := fun j hj => ⟨(a 25 j (by omega) hj).trans (h.bC hj), (a 89 j (by omega) hj).trans (h.bM hj), (h.rg hj).2.2.1⟩
theorem LoI.eH (h : LoI M n kd ld br ht dr hd tr) {M' : MM} (a : ∀ k j, (k = 26 ∨ k = 90) → j < 8 → M' k j = M k j) : ∀ j, j < 8 → M' 26 j = nI (ht j) ∧ M' 90 j = nI (ht j) ∧ ht j ≤ 9 := fun j hj => ⟨(a 26 j (by omega) hj).trans (h.hC hj), (a 90 j (by omega) hj).trans (h.hM hj), (h.rg hj).2.2.2.1⟩
theorem LoI.e4 (h : LoI M n kd ld br ht dr hd tr) {M' : MM} (a : M' 23 4 = M 23 4) (b : M' 83 6 = M 83 6) : M' 23 4 = nI hd ∧ M' 83 6 = nI hd ∧ hd ≤ 6 ∧ (n = 0 ∨ 1 ≤ hd) := ⟨a.trans h.aC, b.trans h.aM, h.a6, by have := h.ps; omega⟩
theorem LoI.e5 (h : LoI M n kd ld br ht dr hd tr) {M' : MM} (a : M' 23 5 = M 23 5) (b : M' 83 7 = M 83 7) : M' 23 5 = nI tr ∧ M' 83 7 = nI tr ∧ tr ≤ 9 ∧ (n = 0 ∨ 1 ≤ tr) := ⟨a.trans h.tC, b.trans h.tM, h.t9, by have := h.ps; omega⟩
end LOA
