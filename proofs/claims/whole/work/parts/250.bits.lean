-- bits of an int
def bt (x : Int32) (t : Nat) : Bool := x.toBitVec.getLsbD t
theorem bt_0 (t : Nat) : bt 0 t = false := by
  unfold bt
  rw [show (0 : Int32).toBitVec = 0#32 from rfl, BitVec.getLsbD_zero]
theorem bt_or (x y : Int32) (t : Nat) : bt (x ||| y) t = (bt x t || bt y t) := by
  unfold bt
  rw [Int32.toBitVec_or, BitVec.getLsbD_or]
theorem bt_sl : ∀ s, s < 32 → ∀ t, t < 32 → bt (sl32 (1 : Int32) (nI s)) t = decide (s = t) := by decide +kernel
theorem us_d : ∀ t, t < 32 → ((nI t).toUInt32 &&& Int32.toUInt32 31) = UInt32.ofNat t ∧ ((UInt32.ofNat t).toBitVec % 32).toNat = t := by decide +kernel
theorem bt_us (x : Int32) {t : Nat} (ht : t < 32) : us32 x (nI t) &&& (1 : Int32) = nI (if bt x t = true then 1 else 0) := by
  obtain ⟨e1, e2⟩ := us_d t ht
  have e : (us32 x (nI t)).toBitVec.toNat = x.toBitVec.toNat / 2 ^ t := by
    unfold us32
    rw [e1]
    show (x.toUInt32 >>> UInt32.ofNat t).toBitVec.toNat = _
    rw [UInt32.toBitVec_shiftRight, BitVec.ushiftRight_eq', BitVec.toNat_ushiftRight, e2, Nat.shiftRight_eq_div_pow]
    rfl
  rw [pk_and (us32 x (nI t)) 1 (by decide), e]
  have eb : bt x t = decide (x.toBitVec.toNat / 2 ^ t % 2 = 1) := by
    unfold bt
    rw [BitVec.getLsbD, Nat.testBit_eq_decide_div_mod_eq]
  rw [eb, show 2 ^ 1 = 2 from rfl]
  by_cases q : x.toBitVec.toNat / 2 ^ t % 2 = 1
  · rw [q, decide_eq_true rfl, if_pos rfl]
  · rw [decide_eq_false q, if_neg (by decide)]
    congr 1
    omega
theorem bd_d : ∀ s, s < 32 → ∀ d, d < 32 → (nI s &&& nI d = 0 ↔ s &&& d = 0) ∧ (nI s ||| nI d) = nI (s ||| d) ∧ s ||| d < 32 := by decide +kernel
-- sets of moves
def stP (p : Nat → Bool) : Nat → Nat
  | 0 => 0
  | k + 1 => stP p k ||| (if p k = true then 2 ^ k else 0)
theorem stP_s (p : Nat → Bool) (k : Nat) : stP p (k + 1) = stP p k ||| (if p k = true then 2 ^ k else 0) := rfl
theorem stP_bit (p : Nat → Bool) : ∀ m k, (stP p m).testBit k = (decide (k < m) && p k)
  | 0, k => by
    rw [show stP p 0 = 0 from rfl, Nat.zero_testBit, decide_eq_false (by omega), Bool.false_and]
  | m + 1, k => by
    rw [stP_s, Nat.testBit_or, stP_bit p m k]
    by_cases e : k = m
    · subst e
      rw [decide_eq_false (by omega), decide_eq_true (show k < k + 1 by omega), Bool.false_and, Bool.false_or, Bool.true_and]
      cases q : p k with
      | true => rw [if_pos rfl, Nat.testBit_two_pow_self]
      | false => rw [if_neg (by decide), Nat.zero_testBit]
    · have : (if p m = true then 2 ^ m else 0).testBit k = false := by
        split
        · rw [Nat.testBit_two_pow, decide_eq_false (by omega)]
        · rw [Nat.zero_testBit]
      rw [this, Bool.or_false]
      by_cases q : k < m
      · rw [decide_eq_true q, decide_eq_true (show k < m + 1 by omega)]
      · rw [decide_eq_false q, decide_eq_false (show ¬ k < m + 1 by omega)]
theorem stP_lt (p : Nat → Bool) : ∀ m, stP p m < 2 ^ m
  | 0 => Nat.zero_lt_one
  | m + 1 => by
    rw [stP_s]
    have h1 := stP_lt p m
    have h2 : 2 ^ m * 2 = 2 ^ (m + 1) := (Nat.pow_succ 2 m).symm
    refine Nat.or_lt_two_pow (by omega) ?_
    split
    · have : 0 < 2 ^ m := Nat.two_pow_pos m
      omega
    · exact Nat.two_pow_pos _
theorem stP_cg {p q : Nat → Bool} : ∀ m, (∀ k, k < m → p k = q k) → stP p m = stP q m
  | 0, _ => rfl
  | m + 1, h => by rw [stP_s, stP_s, stP_cg m (fun k hk => h k (by omega)), h m (by omega)]
theorem p5_d : ∀ m, m < 6 → 2 ^ m ≤ 32 ∧ 1 ≤ 2 ^ m := by decide
theorem all_bit {m k : Nat} : (2 ^ m - 1).testBit k = decide (k < m) := Nat.testBit_two_pow_sub_one m k
-- digits of a row
def rdD (b : Nat) : Nat → Nat → Nat → Nat
  | 0, _, _ => 0
  | i + 1, row, k => if k = i then row % b else rdD b i (row / b) k
theorem rdD_s (b i row k : Nat) : rdD b (i + 1) row k = if k = i then row % b else rdD b i (row / b) k := rfl
theorem rdD_lt {b : Nat} (hb : 0 < b) : ∀ i row k, rdD b i row k < b
  | 0, _, _ => hb
  | i + 1, row, k => by
    rw [rdD_s]
    split
    · exact Nat.mod_lt _ hb
    · exact rdD_lt hb i _ k
theorem rdD_ex {b : Nat} (f : Nat → Nat) : ∀ m, (∀ k, k < m → f k < b) → ∃ row, row < b ^ m ∧ ∀ k, k < m → rdD b m row k = f k
  | 0, _ => ⟨0, by simp, fun k hk => by omega⟩
  | m + 1, h => by
    obtain ⟨row, h1, h2⟩ := rdD_ex f m (fun k hk => h k (by omega))
    have hb : f m < b := h m (by omega)
    have e1 : (row * b + f m) % b = f m := by rw [Nat.mul_comm, Nat.mul_add_mod, Nat.mod_eq_of_lt hb]
    have e2 : (row * b + f m) / b = row := by
      rw [Nat.mul_comm, Nat.mul_add_div (by omega), Nat.div_eq_of_lt hb]
      rfl
    refine ⟨row * b + f m, ?_, fun k hk => ?_⟩
    · rw [Nat.pow_succ]
      have : (row + 1) * b ≤ b ^ m * b := Nat.mul_le_mul_right b h1
      rw [Nat.add_mul] at this
      omega
    · rw [rdD_s, e1, e2]
      by_cases e : k = m
      · rw [if_pos e, e]
      · rw [if_neg e]; exact h2 k (by omega)
-- rows of cues
def RR (nx : Nat → Nat → Prop) (all : Nat) : Nat → Nat → Prop
  | 0, D => D = all
  | c + 1, D => ∃ s, nx D s ∧ RR nx all c (D ||| s)
def pc5 (D : Nat) : Nat := (if D.testBit 0 then 1 else 0) + (if D.testBit 1 then 1 else 0) + (if D.testBit 2 then 1 else 0) + (if D.testBit 3 then 1 else 0) + (if D.testBit 4 then 1 else 0)
theorem pc_d : ∀ D, D < 32 → ∀ s, s < 32 → 1 ≤ s → s &&& D = 0 → pc5 D + 1 ≤ pc5 (D ||| s) := by decide +kernel
theorem pca_d : ∀ m, m < 6 → pc5 (2 ^ m - 1) = m := by decide +kernel
section ROWS
variable {nx : Nat → Nat → Prop} {m : Nat}
theorem RR_le (hm : m ≤ 5) (hnx : ∀ D s, nx D s → 1 ≤ s ∧ s ≤ 2 ^ m - 1 ∧ s &&& D = 0) : ∀ c D, D < 32 → RR nx (2 ^ m - 1) c D → pc5 D + c ≤ m
  | 0, D, _, h => by
    have : D = 2 ^ m - 1 := h
    rw [this, pca_d m (by omega)]
    omega
  | c + 1, D, hD, h => by
    obtain ⟨s, h1, h2⟩ := h
    obtain ⟨g1, g2, g3⟩ := hnx D s h1
    have p5 := p5_d m (by omega)
    have := RR_le hm hnx c (D ||| s) (bd_d D hD s (by omega)).2.2 h2
    have := pc_d D hD s (by omega) g1 g3
    omega
/-- reached by some cues from the start on -/
def RP (nx : Nat → Nat → Prop) : Nat → Nat → Prop
  | 0, D => D = 0
  | i + 1, D => ∃ E s, RP nx i E ∧ nx E s ∧ D = E ||| s
theorem RP_RR {all : Nat} : ∀ i c D, RP nx i D → RR nx all c D → RR nx all (i + c) 0
  | 0, c, D, h1, h2 => by
    have : D = 0 := h1
    rw [Nat.zero_add]
    rw [this] at h2
    exact h2
  | i + 1, c, D, h1, h2 => by
    obtain ⟨E, s, g1, g2, g3⟩ := h1
    have := RP_RR i (c + 1) E g1 ⟨s, g2, by rw [← g3]; exact h2⟩
    rw [show i + 1 + c = i + (c + 1) by omega]
    exact this
end ROWS
/-- a row of cues that can be: every cue holds by q -/
def chQ (q : Nat → Nat → Bool) (I : Nat → Nat) : Nat → Nat → Nat → Bool
  | 0, _, _ => true
  | d + 1, i, D => if q D (I i) = true then chQ q I d (i + 1) (D ||| I i) else false
theorem chQ_s (q : Nat → Nat → Bool) (I : Nat → Nat) (d i D : Nat) : chQ q I (d + 1) i D = if q D (I i) = true then chQ q I d (i + 1) (D ||| I i) else false := rfl
def ofI (f : Nat → Nat) (m : Nat) (i : Nat) : Nat := stP (fun k => decide (f k = i)) m
def ltI (f : Nat → Nat) (m : Nat) (i : Nat) : Nat := stP (fun k => decide (f k < i)) m
theorem ltI_s (f : Nat → Nat) (m i : Nat) : ltI f m i ||| ofI f m i = ltI f m (i + 1) := by
  apply Nat.eq_of_testBit_eq
  intro k
  unfold ltI ofI
  rw [Nat.testBit_or, stP_bit, stP_bit, stP_bit]
  by_cases q : k < m
  · rw [decide_eq_true q, Bool.true_and, Bool.true_and, Bool.true_and]
    by_cases e : f k < i
    · rw [decide_eq_true e, decide_eq_true (show f k < i + 1 by omega), Bool.true_or]
    · rw [decide_eq_false e, Bool.false_or]
      by_cases e2 : f k = i
      · rw [decide_eq_true e2, decide_eq_true (show f k < i + 1 by omega)]
      · rw [decide_eq_false e2, decide_eq_false (show ¬ f k < i + 1 by omega)]
  · rw [decide_eq_false q]
    rfl
theorem ltI_0 (f : Nat → Nat) (m : Nat) : ltI f m 0 = 0 := by
  apply Nat.eq_of_testBit_eq
  intro k
  unfold ltI
  rw [stP_bit, Nat.zero_testBit, decide_eq_false (show ¬ f k < 0 by omega), Bool.and_false]
theorem ltI_all {f : Nat → Nat} {m c : Nat} (h : ∀ k, k < m → f k < c) : ltI f m c = 2 ^ m - 1 := by
  apply Nat.eq_of_testBit_eq
  intro k
  unfold ltI
  rw [stP_bit, all_bit]
  by_cases q : k < m
  · rw [decide_eq_true q, decide_eq_true (h k q)]
    rfl
  · rw [decide_eq_false q]
    rfl
theorem of_lt (f : Nat → Nat) (m i : Nat) : ofI f m i &&& ltI f m i = 0 := by
  apply Nat.eq_of_testBit_eq
  intro k
  unfold ltI ofI
  rw [Nat.testBit_and, stP_bit, stP_bit, Nat.zero_testBit]
  by_cases e : f k = i
  · rw [decide_eq_false (show ¬ f k < i by omega), Bool.and_false, Bool.and_false]
  · rw [decide_eq_false e, Bool.and_false, Bool.false_and]
theorem ofI_le (f : Nat → Nat) (m i : Nat) : ofI f m i ≤ 2 ^ m - 1 := by
  have := stP_lt (fun k => decide (f k = i)) m
  unfold ofI
  omega
theorem ltI_le (f : Nat → Nat) (m i : Nat) : ltI f m i ≤ 2 ^ m - 1 := by
  have := stP_lt (fun k => decide (f k < i)) m
  unfold ltI
  omega
section ROWS2
variable {cb : Nat → Nat → Bool} {nx : Nat → Nat → Bool} {m : Nat}
/-- the reference's row as the class's: by as many cues at most -/
theorem ch_RR (hnx : ∀ D s, nx D s = true ↔ (1 ≤ s ∧ s ≤ 2 ^ m - 1 ∧ s &&& D = 0 ∧ cb D s = true)) {f : Nat → Nat} {c : Nat} (hf : ∀ k, k < m → f k < c) : ∀ d i, i + d = c → chQ cb (ofI f m) d i (ltI f m i) = true → ∃ c', c' ≤ d ∧ RR (fun D s => nx D s = true) (2 ^ m - 1) c' (ltI f m i) ∧ (c' = d → chQ nx (ofI f m) d i (ltI f m i) = true)
  | 0, i, h1, h2 => by
    obtain rfl : i = c := by omega
    exact ⟨0, Nat.le_refl _, ltI_all hf, fun _ => rfl⟩
  | d + 1, i, h1, h2 => by
    rw [chQ_s] at h2
    split at h2
    · rename_i g
      rw [ltI_s] at h2
      obtain ⟨c', i1, i2, i3⟩ := ch_RR hnx hf d (i + 1) (by omega) h2
      by_cases e : 1 ≤ ofI f m i
      · have hn : nx (ltI f m i) (ofI f m i) = true := (hnx _ _).mpr ⟨e, ofI_le f m i, of_lt f m i, g⟩
        refine ⟨c' + 1, by omega, ⟨ofI f m i, hn, by rw [ltI_s]; exact i2⟩, fun z => ?_⟩
        rw [chQ_s, if_pos hn, ltI_s]
        exact i3 (by omega)
      · have e0 : ofI f m i = 0 := by omega
        have el : ltI f m (i + 1) = ltI f m i := by rw [← ltI_s, e0, Nat.or_zero]
        rw [el] at i2
        exact ⟨c', by omega, i2, fun z => by omega⟩
    · cases h2
theorem ch_mono (hnx : ∀ D s, nx D s = true ↔ (1 ≤ s ∧ s ≤ 2 ^ m - 1 ∧ s &&& D = 0 ∧ cb D s = true)) {I : Nat → Nat} : ∀ d i D, chQ nx I d i D = true → chQ cb I d i D = true
  | 0, _, _, _ => rfl
  | d + 1, i, D, h => by
    rw [chQ_s] at h ⊢
    split at h
    · rename_i g
      rw [if_pos ((hnx _ _).mp g).2.2.2]
      exact ch_mono hnx d (i + 1) _ h
    · cases h
/-- cues in a row have a row of numbers -/
theorem RR_row (hnx : ∀ D s, nx D s = true ↔ (1 ≤ s ∧ s ≤ 2 ^ m - 1 ∧ s &&& D = 0 ∧ cb D s = true)) : ∀ c i D, RR (fun D s => nx D s = true) (2 ^ m - 1) c D → (D ≤ 2 ^ m - 1) → ∃ f : Nat → Nat, (∀ k, k < m → D.testBit k = false → i ≤ f k ∧ f k < i + c) ∧ (∀ g : Nat → Nat, (∀ k, k < m → g k = if D.testBit k = true then g k else f k) → (∀ k, k < m → D.testBit k = true → g k < i) → chQ nx (ofI g m) c i D = true)
  | 0, i, D, h, hD => by
    have e : D = 2 ^ m - 1 := h
    refine ⟨fun _ => 0, fun k hk q => ?_, fun g _ _ => rfl⟩
    rw [e, all_bit, decide_eq_true hk] at q
    cases q
  | c + 1, i, D, h, hD => by
    obtain ⟨s, h1, h2⟩ := h
    obtain ⟨g1, g2, g3, g4⟩ := (hnx _ _).mp h1
    have hor : D ||| s ≤ 2 ^ m - 1 := by
      have : D ||| s < 2 ^ m := Nat.or_lt_two_pow (by have := Nat.two_pow_pos m; omega) (by have := Nat.two_pow_pos m; omega)
      omega
    obtain ⟨f, f1, f2⟩ := RR_row hnx c (i + 1) (D ||| s) h2 hor
    have dis : ∀ k, s.testBit k = true → D.testBit k = false := fun k hk => by
      have := congrArg (fun z => z.testBit k) g3
      simp only [Nat.testBit_and, Nat.zero_testBit, hk, Bool.true_and] at this
      exact this
    refine ⟨fun k => if s.testBit k = true then i else f k, fun k hk q => ?_, fun g hg1 hg2 => ?_⟩
    · try dsimp only
      split
      · omega
      · rename_i z
        have := f1 k hk (by rw [Nat.testBit_or, q, Bool.false_or]; simpa using z)
        omega
    · replace hg1 : ∀ k, k < m → g k = if D.testBit k = true then g k else (if s.testBit k = true then i else f k) := hg1
      have es : ofI g m i = s := by
        apply Nat.eq_of_testBit_eq
        intro k
        unfold ofI
        rw [stP_bit]
        by_cases hk : k < m
        · rw [decide_eq_true hk, Bool.true_and]
          cases qs : s.testBit k with
          | true =>
            have := hg1 k hk
            rw [dis k qs, if_neg (by decide), qs, if_pos rfl] at this
            rw [decide_eq_true this]
          | false =>
            rw [decide_eq_false]
            intro z
            cases qd : D.testBit k with
            | true => have := hg2 k hk qd; omega
            | false =>
              have h7 := hg1 k hk
              rw [qd, if_neg (by decide), qs, if_neg (by decide)] at h7
              have := f1 k hk (by rw [Nat.testBit_or, qd, qs]; rfl)
              omega
        · rw [decide_eq_false hk, Bool.false_and]
          have : s < 2 ^ m := by have := Nat.two_pow_pos m; omega
          rw [Nat.testBit_lt_two_pow (Nat.lt_of_lt_of_le this (Nat.pow_le_pow_right (by omega) (by omega)))]
      rw [chQ_s, es, if_pos h1]
      refine f2 g (fun k hk => ?_) (fun k hk q => ?_)
      · rw [Nat.testBit_or]
        have := hg1 k hk
        cases qd : D.testBit k with
        | true => simp
        | false =>
          cases qs : s.testBit k with
          | true => simp
          | false =>
            rw [qd, if_neg (by decide), qs, if_neg (by decide)] at this
            simp [this]
      · rw [Nat.testBit_or] at q
        cases qd : D.testBit k with
        | true => have := hg2 k hk qd; omega
        | false =>
          rw [qd, Bool.false_or] at q
          have := hg1 k hk
          rw [qd, if_neg (by decide), q, if_pos rfl] at this
          omega
end ROWS2
