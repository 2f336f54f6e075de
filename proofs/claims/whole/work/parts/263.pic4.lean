-- pictures: the rows of the reference, pure
def gMa (own : Nat → Nat) : Nat → Nat → Nat → Nat
  | 0, _, _ => 0
  | d + 1, b, r => (if pla own b (r / 3 ^ d) = own b then 0 else 1) + gMa own d (b + 1) (r % 3 ^ d)
def gEf (own P : Nat → Nat) : Nat → Nat → Nat → Nat
  | 0, _, _ => 0
  | d + 1, b, r => (if pla own b (r / 3 ^ d) = own b then 0 else P b * adN (pla own b (r / 3 ^ d)) (own b)) + gEf own P d (b + 1) (r % 3 ^ d)
def gOk (own P : Nat → Nat) (hd : Nat) : Nat → Nat → Nat → Prop
  | 0, _, _ => True
  | d + 1, b, r => (¬ badD own b (r / 3 ^ d) ∧ (pla own b (r / 3 ^ d) = own b ∨ P b ≤ hd)) ∧ gOk own P hd d (b + 1) (r % 3 ^ d)
def gSe (own dr : Nat → Nat) (w : Nat → Bool) : Nat → Nat → Nat → Nat → Prop
  | 0, _, _, _ => True
  | d + 1, b, bound, r => decide (pla own b (r / 3 ^ d) - dr b < bound) = w b ∧ gSe own dr w d (b + 1) (min bound (pla own b (r / 3 ^ d) - dr b)) (r % 3 ^ d)
section PRF
variable {own dr P : Nat → Nat} {hd : Nat} {w : Nat → Bool}
theorem gMa_s (d b r : Nat) : gMa own (d + 1) b r = (if pla own b (r / 3 ^ d) = own b then 0 else 1) + gMa own d (b + 1) (r % 3 ^ d) := rfl
theorem gEf_s (d b r : Nat) : gEf own P (d + 1) b r = (if pla own b (r / 3 ^ d) = own b then 0 else P b * adN (pla own b (r / 3 ^ d)) (own b)) + gEf own P d (b + 1) (r % 3 ^ d) := rfl
theorem gOk_s (d b r : Nat) : gOk own P hd (d + 1) b r = ((¬ badD own b (r / 3 ^ d) ∧ (pla own b (r / 3 ^ d) = own b ∨ P b ≤ hd)) ∧ gOk own P hd d (b + 1) (r % 3 ^ d)) := rfl
theorem gSe_s (d b bound r : Nat) : gSe own dr w (d + 1) b bound r = (decide (pla own b (r / 3 ^ d) - dr b < bound) = w b ∧ gSe own dr w d (b + 1) (min bound (pla own b (r / 3 ^ d) - dr b)) (r % 3 ^ d)) := rfl
theorem CRf_g (hP : ∀ j, j < 8 → P j ≤ 9) (ho : ∀ j, j < 8 → own j ≤ 9) : ∀ d b bound r, b + d ≤ 8 → gMa own d b r ≤ d ∧ gEf own P d b r ≤ 81 * d ∧ (gOk own P hd d b r ∧ gSe own dr w d b bound r → CRf own dr P hd w d b bound r = 1000 * gMa own d b r + gEf own P d b r) ∧ (¬ (gOk own P hd d b r ∧ gSe own dr w d b bound r) → CRf own dr P hd w d b bound r = 1000000)
  | 0, _, _, _, _ => ⟨Nat.le_refl _, Nat.le_refl _, fun _ => rfl, fun z => absurd ⟨trivial, trivial⟩ z⟩
  | d + 1, b, bound, r, h => by
    obtain ⟨i1, i2, i3, i4⟩ := CRf_g hP ho d (b + 1) (min bound (pla own b (r / 3 ^ d) - dr b)) (r % 3 ^ d) (by omega)
    rw [CRf_s, gMa_s, gEf_s, gOk_s, gSe_s]
    have x9 : pla own b (r / 3 ^ d) ≤ 9 := pla_9 (ht := own) (ho b (by omega))
    have m9 : P b * adN (pla own b (r / 3 ^ d)) (own b) ≤ 9 * 9 := Nat.mul_le_mul (hP b (by omega)) (adN_le x9 (ho b (by omega)))
    by_cases hb : badD own b (r / 3 ^ d)
    · rw [if_pos hb]
      refine ⟨by split <;> omega, by split <;> omega, fun z => absurd hb z.1.1.1, fun _ => rfl⟩
    · rw [if_neg hb]
      unfold cFv ctF
      by_cases hs : decide (pla own b (r / 3 ^ d) - dr b < bound) = w b
      · rw [if_pos hs]
        by_cases hx : pla own b (r / 3 ^ d) = own b
        · simp only [if_pos hx]
          refine ⟨by omega, by omega, fun z => ?_, fun z => ?_⟩
          · rw [i3 ⟨z.1.2, z.2.2⟩]
            omega
          · rw [i4 (fun q => z ⟨⟨⟨hb, Or.inl hx⟩, q.1⟩, hs, q.2⟩)]
            omega
        · simp only [if_neg hx]
          by_cases hp : P b ≤ hd
          · rw [if_pos hp]
            refine ⟨by omega, by omega, fun z => ?_, fun z => ?_⟩
            · rw [i3 ⟨z.1.2, z.2.2⟩]
              omega
            · rw [i4 (fun q => z ⟨⟨⟨hb, Or.inr hp⟩, q.1⟩, hs, q.2⟩)]
              omega
          · rw [if_neg hp]
            refine ⟨by omega, by omega, fun z => ?_, fun _ => by omega⟩
            rcases z.1.1.2 with q | q
            · exact absurd q hx
            · exact absurd q hp
      · rw [if_neg hs]
        refine ⟨by split <;> omega, by split <;> omega, fun z => absurd z.2.1 hs, fun _ => rfl⟩
/-- seen as asked for, by bits -/
theorem gSe_b (e : Nat → Nat) : ∀ d b bound r, (∀ j, b ≤ j → j < b + d → e j = hRw own d b r j - dr j) → (gSe own dr w d b bound r ↔ ∀ j, b ≤ j → j < b + d → (w j = true ↔ (e j < bound ∧ ∀ a, b ≤ a → a < j → e j < e a)))
  | 0, _, _, _, _ => ⟨fun _ j h1 h2 => by omega, fun _ => trivial⟩
  | d + 1, b, bound, r, he => by
    have e0 : e b = pla own b (r / 3 ^ d) - dr b := by rw [he b (by omega) (by omega), hRw_s, if_pos rfl]
    have ih := gSe_b e d (b + 1) (min bound (pla own b (r / 3 ^ d) - dr b)) (r % 3 ^ d) (fun j h1 h2 => by rw [he j (by omega) (by omega), hRw_s, if_neg (by omega)])
    rw [gSe_s, ih, ← e0]
    have both : ∀ j, b + 1 ≤ j → ((e j < min bound (e b) ∧ ∀ a, b + 1 ≤ a → a < j → e j < e a) ↔ (e j < bound ∧ ∀ a, b ≤ a → a < j → e j < e a)) := fun j hj => by
      constructor
      · rintro ⟨u, v⟩
        refine ⟨by omega, fun a a1 a2 => ?_⟩
        by_cases ea : a = b
        · subst ea
          omega
        · exact v a (by omega) a2
      · rintro ⟨u, v⟩
        have := v b (by omega) (by omega)
        exact ⟨by omega, fun a a1 a2 => v a (by omega) a2⟩
    constructor
    · rintro ⟨x, y⟩ j j1 j2
      by_cases ej : j = b
      · subst ej
        rw [← x, decide_eq_true_iff]
        exact ⟨fun z => ⟨z, fun a _ _ => by omega⟩, fun z => z.1⟩
      · rw [y j (by omega) (by omega), both j (by omega)]
    · intro z
      refine ⟨?_, fun j j1 j2 => ?_⟩
      · have q := z b (by omega) (by omega)
        cases hw : w b with
        | true => exact decide_eq_true ((q.mp hw).1)
        | false =>
          refine decide_eq_false (fun u => ?_)
          have := q.mpr ⟨u, fun a _ _ => by omega⟩
          rw [hw] at this
          cases this
      · rw [z j (by omega) (by omega), both j (by omega)]
theorem sn_g {e : Nat → Nat} {n s r tr : Nat} (n8 : n ≤ 8) (hs : s < 2 ^ n) (he : ∀ j, j < n → e j = hRw own n 0 r j - dr j) : snS e n 0 0 tr = nI s ↔ gSe own dr (fun i => s.testBit i) n 0 tr r := by
  obtain ⟨S, s1, s2, s3, s4⟩ := sn_bit (e := e) n 0 0 tr (by omega) (by omega)
  have s1' : snS e n 0 0 tr = nI S := s1
  rw [Nat.zero_add] at s2
  have p8 : 2 ^ n ≤ 256 := (p2_d n (by omega)).2
  rw [gSe_b e n 0 tr r (fun j _ h => he j (by omega)), s1']
  constructor
  · intro z j j1 j2
    have q := nI_inj (by omega) (by omega) z
    show s.testBit j = true ↔ _
    rw [← q]
    exact s4 j j1 j2
  · intro z
    have q : S = s := by
      apply Nat.eq_of_testBit_eq
      intro j
      by_cases hj : j < n
      · exact Bool.eq_iff_iff.mpr ((s4 j (by omega) (by omega)).trans (z j (by omega) (by omega)).symm)
      · have hp : 2 ^ n ≤ 2 ^ j := Nat.pow_le_pow_right (by omega) (by omega)
        rw [Nat.testBit_lt_two_pow (Nat.lt_of_lt_of_le s2 hp), Nat.testBit_lt_two_pow (Nat.lt_of_lt_of_le hs hp)]
    rw [q]
theorem hRw_9 (ho : ∀ j, j < 8 → own j ≤ 9) : ∀ d b r j, b + d ≤ 8 → hRw own d b r j ≤ 9
  | 0, _, _, _, _ => Nat.zero_le _
  | d + 1, b, r, j, h => by
    rw [hRw_s]
    split
    · exact pla_9 (ht := own) (ho b (by omega))
    · exact hRw_9 ho d (b + 1) _ j (by omega)
theorem m3_div (r d : Nat) : r % 3 ^ (d + 1) / 3 ^ d = r / 3 ^ d % 3 := by
  rw [Nat.pow_succ, Nat.mod_mul_right_div_self]
theorem m3_mod (r d : Nat) : r % 3 ^ (d + 1) % 3 ^ d = r % 3 ^ d := by
  rw [Nat.pow_succ, Nat.mod_mul_right_mod]
theorem m3_dd (r d : Nat) : r / 3 ^ d / 3 = r / 3 ^ (d + 1) := by
  rw [Nat.div_div_eq_div_mul, Nat.pow_succ]
theorem gOk_suf {n r : Nat} (hr : r < 3 ^ n) (h : gOk own P hd n 0 r) : ∀ i, i ≤ n → gOk own P hd (n - i) i (r % 3 ^ (n - i))
  | 0, _ => by
    rw [Nat.sub_zero, Nat.mod_eq_of_lt hr]
    exact h
  | i + 1, hi => by
    have q := gOk_suf hr h i (by omega)
    rw [show n - i = n - (i + 1) + 1 by omega, gOk_s, m3_mod] at q
    exact q.2
end PRF
