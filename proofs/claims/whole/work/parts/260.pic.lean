-- pictures: by how much, from a batten on, under a bound
def ctF (own P : Nat → Nat) (hd b x : Nat) : Nat := if x = own b then 0 else if P b ≤ hd then 1000 + P b * adN x (own b) else 1000000
def cFv (own dr P : Nat → Nat) (hd : Nat) (w : Nat → Bool) (b bound x : Nat) (Ln : Nat → Nat) : Nat := if decide (x - dr b < bound) = w b then min 1000000 (ctF own P hd b x + Ln (min bound (x - dr b))) else 1000000
def Lf (own dr P : Nat → Nat) (hd : Nat) (w : Nat → Bool) : Nat → Nat → Nat → Nat
  | 0, _, _ => 0
  | d + 1, b, bound => min (min (min 1000000 (cFv own dr P hd w b bound 0 (Lf own dr P hd w d (b + 1)))) (cFv own dr P hd w b bound (own b) (Lf own dr P hd w d (b + 1)))) (cFv own dr P hd w b bound 9 (Lf own dr P hd w d (b + 1)))
def chX (own dr P : Nat → Nat) (hd : Nat) (w : Nat → Bool) (d b bound : Nat) : Nat := if cFv own dr P hd w b bound 0 (Lf own dr P hd w d (b + 1)) = Lf own dr P hd w (d + 1) b bound then 0 else if cFv own dr P hd w b bound (own b) (Lf own dr P hd w d (b + 1)) = Lf own dr P hd w (d + 1) b bound then own b else 9
def chH (own dr P : Nat → Nat) (hd : Nat) (w : Nat → Bool) : Nat → Nat → Nat → Nat → Nat
  | 0, _, _, _ => 0
  | d + 1, b, bound, j => if j = b then chX own dr P hd w d b bound else chH own dr P hd w d (b + 1) (min bound (chX own dr P hd w d b bound - dr b)) j
def pla (own : Nat → Nat) (b k : Nat) : Nat := if k = 0 then 0 else if k = 1 then own b else 9
abbrev badD (own : Nat → Nat) (b k : Nat) : Prop := k = 1 ∧ (own b = 0 ∨ own b = 9)
def CRf (own dr P : Nat → Nat) (hd : Nat) (w : Nat → Bool) : Nat → Nat → Nat → Nat → Nat
  | 0, _, _, _ => 0
  | d + 1, b, bound, r => if badD own b (r / 3 ^ d) then 1000000 else cFv own dr P hd w b bound (pla own b (r / 3 ^ d)) (fun bd => CRf own dr P hd w d (b + 1) bd (r % 3 ^ d))
def hRw (own : Nat → Nat) : Nat → Nat → Nat → Nat → Nat
  | 0, _, _, _ => 0
  | d + 1, b, r, j => if j = b then pla own b (r / 3 ^ d) else hRw own d (b + 1) (r % 3 ^ d) j
section PIC
variable {own dr P : Nat → Nat} {hd : Nat} {w : Nat → Bool}
theorem cFv_le (b bound x : Nat) (Ln : Nat → Nat) : cFv own dr P hd w b bound x Ln ≤ 1000000 := by
  unfold cFv
  split <;> omega
theorem cFv_mono {b bound x : Nat} {L1 L2 : Nat → Nat} (h : L1 (min bound (x - dr b)) ≤ L2 (min bound (x - dr b))) : cFv own dr P hd w b bound x L1 ≤ cFv own dr P hd w b bound x L2 := by
  unfold cFv
  split <;> omega
theorem Lf_s (d b bound : Nat) : Lf own dr P hd w (d + 1) b bound = min (min (min 1000000 (cFv own dr P hd w b bound 0 (Lf own dr P hd w d (b + 1)))) (cFv own dr P hd w b bound (own b) (Lf own dr P hd w d (b + 1)))) (cFv own dr P hd w b bound 9 (Lf own dr P hd w d (b + 1))) := rfl
theorem CRf_s (d b bound r : Nat) : CRf own dr P hd w (d + 1) b bound r = if badD own b (r / 3 ^ d) then 1000000 else cFv own dr P hd w b bound (pla own b (r / 3 ^ d)) (fun bd => CRf own dr P hd w d (b + 1) bd (r % 3 ^ d)) := rfl
theorem hRw_s (d b r j : Nat) : hRw own (d + 1) b r j = if j = b then pla own b (r / 3 ^ d) else hRw own d (b + 1) (r % 3 ^ d) j := rfl
theorem chH_s (d b bound j : Nat) : chH own dr P hd w (d + 1) b bound j = if j = b then chX own dr P hd w d b bound else chH own dr P hd w d (b + 1) (min bound (chX own dr P hd w d b bound - dr b)) j := rfl
theorem Lf_le : ∀ d b bound, Lf own dr P hd w d b bound ≤ 1000000
  | 0, _, _ => by
    show 0 ≤ 1000000
    omega
  | d + 1, b, bound => by
    rw [Lf_s]
    omega
theorem Lf_k (d b bound k : Nat) : Lf own dr P hd w (d + 1) b bound ≤ cFv own dr P hd w b bound (pla own b k) (Lf own dr P hd w d (b + 1)) := by
  rw [Lf_s]
  unfold pla
  split
  · omega
  · split <;> omega
theorem CRf_ge : ∀ d b bound r, r < 3 ^ d → Lf own dr P hd w d b bound ≤ CRf own dr P hd w d b bound r
  | 0, _, _, _, _ => Nat.le_refl _
  | d + 1, b, bound, r, h => by
    rw [CRf_s]
    split
    · exact Lf_le _ _ _
    · refine Nat.le_trans (Lf_k d b bound (r / 3 ^ d)) (cFv_mono ?_)
      exact CRf_ge d (b + 1) _ _ (Nat.mod_lt _ (Nat.pow_pos (by omega)))
theorem CRf_ex : ∀ d b bound, Lf own dr P hd w d b bound < 1000000 → ∃ r0, r0 < 3 ^ d ∧ CRf own dr P hd w d b bound r0 = Lf own dr P hd w d b bound ∧ (∀ r, r < r0 → Lf own dr P hd w d b bound < CRf own dr P hd w d b bound r) ∧ ∀ j, b ≤ j → j < b + d → hRw own d b r0 j = chH own dr P hd w d b bound j
  | 0, b, bound, _ => ⟨0, by decide, rfl, fun r h => by omega, fun j h1 h2 => by omega⟩
  | d + 1, b, bound, hL => by
    have p3 : 0 < 3 ^ d := Nat.pow_pos (by omega)
    have ps : 3 ^ (d + 1) = 3 ^ d * 3 := Nat.pow_succ 3 d
    -- the digit
    obtain ⟨dl, d1, d2, d3, d4, d5⟩ : ∃ dl, dl < 3 ∧ pla own b dl = chX own dr P hd w d b bound ∧ ¬ badD own b dl ∧ cFv own dr P hd w b bound (pla own b dl) (Lf own dr P hd w d (b + 1)) = Lf own dr P hd w (d + 1) b bound ∧ ∀ k, k < dl → ¬ badD own b k → cFv own dr P hd w b bound (pla own b k) (Lf own dr P hd w d (b + 1)) ≠ Lf own dr P hd w (d + 1) b bound := by
      have hs := Lf_s (own := own) (dr := dr) (P := P) (hd := hd) (w := w) d b bound
      unfold chX
      by_cases e0 : cFv own dr P hd w b bound 0 (Lf own dr P hd w d (b + 1)) = Lf own dr P hd w (d + 1) b bound
      · refine ⟨0, by omega, ?_, fun z => by have := z.1; omega, e0, fun k hk => by omega⟩
        rw [if_pos e0]
        rfl
      · rw [if_neg e0]
        by_cases e1 : cFv own dr P hd w b bound (own b) (Lf own dr P hd w d (b + 1)) = Lf own dr P hd w (d + 1) b bound
        · rw [if_pos e1]
          have ne0 : own b ≠ 0 := fun z => e0 (by rw [z] at e1; exact e1)
          by_cases e9 : own b = 9
          · refine ⟨2, by omega, ?_, fun z => by have := z.1; omega, ?_, fun k hk hb => ?_⟩
            · rw [e9]; rfl
            · rw [show pla own b 2 = own b by rw [e9]; rfl]; exact e1
            · by_cases ek : k = 0
              · subst ek; exact e0
              · exact absurd ⟨by omega, Or.inr e9⟩ hb
          · refine ⟨1, by omega, rfl, fun z => by rcases z.2 with z | z; exact ne0 z; exact e9 z, e1, fun k hk hb => ?_⟩
            obtain rfl : k = 0 := by omega
            exact e0
        · rw [if_neg e1]
          refine ⟨2, by omega, rfl, fun z => by have := z.1; omega, ?_, fun k hk hb => ?_⟩
          · show cFv own dr P hd w b bound 9 (Lf own dr P hd w d (b + 1)) = _
            omega
          · rcases (show k = 0 ∨ k = 1 by omega) with rfl | rfl
            · exact e0
            · exact e1
    -- behind it
    have hx : decide (pla own b dl - dr b < bound) = w b ∧ ctF own P hd b (pla own b dl) + Lf own dr P hd w d (b + 1) (min bound (pla own b dl - dr b)) = Lf own dr P hd w (d + 1) b bound := by
      rw [← d4] at hL ⊢
      unfold cFv at hL ⊢
      split at hL
      · rename_i z
        refine ⟨z, ?_⟩
        rw [if_pos z]
        omega
      · omega
    obtain ⟨r1, i1, i2, i3, i4⟩ := CRf_ex d (b + 1) (min bound (pla own b dl - dr b)) (by omega)
    have hdv : ∀ r', r' < 3 ^ d → (dl * 3 ^ d + r') / 3 ^ d = dl ∧ (dl * 3 ^ d + r') % 3 ^ d = r' := fun r' hr' => by
      rw [Nat.mul_comm]
      refine ⟨?_, ?_⟩
      · rw [Nat.mul_add_div p3, Nat.div_eq_of_lt hr']
        rfl
      · rw [Nat.mul_add_mod, Nat.mod_eq_of_lt hr']
    obtain ⟨q1, q2⟩ := hdv r1 i1
    have cval : ∀ r', r' < 3 ^ d → CRf own dr P hd w (d + 1) b bound (dl * 3 ^ d + r') = min 1000000 (ctF own P hd b (pla own b dl) + CRf own dr P hd w d (b + 1) (min bound (pla own b dl - dr b)) r') := fun r' hr' => by
      obtain ⟨z1, z2⟩ := hdv r' hr'
      rw [CRf_s, z1, z2, if_neg d3]
      unfold cFv
      rw [if_pos hx.1]
    refine ⟨dl * 3 ^ d + r1, ?_, ?_, fun r hr => ?_, fun j j1 j2 => ?_⟩
    · rw [ps]
      have : dl * 3 ^ d ≤ 2 * 3 ^ d := Nat.mul_le_mul_right _ (by omega)
      omega
    · rw [cval r1 i1, i2]
      omega
    · by_cases ek : r / 3 ^ d = dl
      · have er : r = dl * 3 ^ d + r % 3 ^ d := by
          have := Nat.div_add_mod r (3 ^ d)
          rw [ek, Nat.mul_comm] at this
          exact this.symm
        have hlt : r % 3 ^ d < r1 := by omega
        rw [er, cval _ (Nat.mod_lt _ p3)]
        have := i3 _ hlt
        omega
      · have hk : r / 3 ^ d < dl := by
          have h1 : r / 3 ^ d ≤ (dl * 3 ^ d + r1) / 3 ^ d := Nat.div_le_div_right (by omega)
          rw [q1] at h1
          omega
        rw [CRf_s]
        split
        · exact hL
        · rename_i hb
          have h1 := d5 _ hk hb
          have h2 := Lf_k (own := own) (dr := dr) (P := P) (hd := hd) (w := w) d b bound (r / 3 ^ d)
          have h3 : cFv own dr P hd w b bound (pla own b (r / 3 ^ d)) (Lf own dr P hd w d (b + 1)) ≤ cFv own dr P hd w b bound (pla own b (r / 3 ^ d)) (fun bd => CRf own dr P hd w d (b + 1) bd (r % 3 ^ d)) := cFv_mono (CRf_ge d (b + 1) _ _ (Nat.mod_lt _ p3))
          omega
    · rw [hRw_s, chH_s, q1, q2, d2]
      by_cases e : j = b
      · rw [if_pos e, if_pos e]
      · rw [if_neg e, if_neg e, ← d2]
        exact i4 j (by omega) (by omega)
end PIC
