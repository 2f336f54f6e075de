theorem nI_z0 {a : Nat} (h : a < 2 ^ 31) : (nI a = 0) = (a = 0) := propext (nI_eq (b := 0) h (by omega))
theorem nI_LE {a b : Nat} (ha : a < 2 ^ 31) (hb : b < 2 ^ 31) : (nI a ≤ nI b) = (a ≤ b) := propext (nI_leI ha hb)
theorem nI_LT {a b : Nat} (ha : a < 2 ^ 31) (hb : b < 2 ^ 31) : (nI a < nI b) = (a < b) := propext (nI_ltI ha hb)
theorem nI_EQ {a b : Nat} (ha : a < 2 ^ 31) (hb : b < 2 ^ 31) : (nI a = nI b) = (a = b) := propext (nI_eq ha hb)
theorem FU_eq : FU = 7000 := rfl
-- neighbours that foul
abbrev foulP (dr a b : Nat → Nat) (j : Nat) : Prop := dr j ≠ 0 ∧ dr (j + 1) ≠ 0 ∧ ((a (j + 1) < a j ∧ b j < b (j + 1)) ∨ (a j < a (j + 1) ∧ b (j + 1) < b j))
def foT (d0 d1 x y u w : Int32) : Option Int32 := if d0 = 0 then some (0 : Int32) else if d1 = 0 then some (0 : Int32) else if x ≤ y then (if y ≤ x then some (0 : Int32) else if u ≤ w then some (0 : Int32) else some (1 : Int32)) else (if u < w then some (1 : Int32) else (if y ≤ x then some (0 : Int32) else if u ≤ w then some (0 : Int32) else some (1 : Int32)))
theorem foT_n {d0 d1 x y u w : Nat} (h0 : d0 ≤ 9) (h1 : d1 ≤ 9) (h2 : x ≤ 9) (h3 : y ≤ 9) (h4 : u ≤ 9) (h5 : w ≤ 9) : foT (nI d0) (nI d1) (nI x) (nI y) (nI u) (nI w) = some (b2i (decide (d0 ≠ 0 ∧ d1 ≠ 0 ∧ ((y < x ∧ u < w) ∨ (x < y ∧ w < u))))) := by
  unfold foT
  simp only [nI_z0 (show d0 < 2 ^ 31 by omega), nI_z0 (show d1 < 2 ^ 31 by omega), nI_LE (show x < 2 ^ 31 by omega) (show y < 2 ^ 31 by omega), nI_LE (show y < 2 ^ 31 by omega) (show x < 2 ^ 31 by omega), nI_LE (show u < 2 ^ 31 by omega) (show w < 2 ^ 31 by omega), nI_LT (show u < 2 ^ 31 by omega) (show w < 2 ^ 31 by omega)]
  repeat' split
  all_goals first | (rw [decide_eq_false (by omega)]; rfl) | (rw [decide_eq_true (by omega)]; rfl)
theorem c_foul {M : MM} {dr a b : Nat → Nat} {k1 k2 j : Nat} (hj : j + 1 < 8) (hd : ∀ i, i < 8 → M 22 i = nI (dr i) ∧ dr i ≤ 9) (ha : ∀ i, i < 8 → M k1 i = nI (a i) ∧ a i ≤ 9) (hb : ∀ i, i < 8 → M k2 i = nI (b i) ∧ b i ≤ 9) : f_X1_foul M (nI j) k1 k2 = some (b2i (decide (foulP dr a b j))) := by
  have e : f_X1_foul M (nI j) k1 k2 = foT (nI (dr j)) (nI (dr (j + 1))) (nI (a j)) (nI (a (j + 1))) (nI (b j)) (nI (b (j + 1))) := by
    unfold f_X1_foul g_X1_foul_44 foT
    simp only [show nI j + (1 : Int32) = nI (j + 1) from nI_1 j, if_pos (ib_ok (show j < 8 by omega) (show 8 ≤ 2 ^ 31 by omega)), if_pos (ib_ok hj (show 8 ≤ 2 ^ 31 by omega)), nI_clamp (show j < 2 ^ 31 by omega), nI_clamp (show j + 1 < 2 ^ 31 by omega), (hd j (by omega)).1, (hd (j + 1) hj).1, (ha j (by omega)).1, (ha (j + 1) hj).1, (hb j (by omega)).1, (hb (j + 1) hj).1]
  rw [e, foT_n (hd j (by omega)).2 (hd (j + 1) hj).2 (ha j (by omega)).2 (ha (j + 1) hj).2 (hb j (by omega)).2 (hb (j + 1) hj).2]
theorem m_foul {M : MM} {dr a b : Nat → Nat} {j n : Nat} (hn : n ≤ 8) (hj : j + 1 < n) (hd : ∀ i, i < 8 → M 91 i = nI (dr i) ∧ dr i ≤ 9) (ha : ∀ i, i < 8 → M 90 i = nI (a i) ∧ a i ≤ 9) (hb : ∀ i, i < n → M 93 i = nI (b i) ∧ b i ≤ 9) : f_X11_fouls M (nI j) = some (b2i (decide (foulP dr a b j))) := by
  have e : f_X11_fouls M (nI j) = foT (nI (dr j)) (nI (dr (j + 1))) (nI (a j)) (nI (a (j + 1))) (nI (b j)) (nI (b (j + 1))) := by
    unfold f_X11_fouls g_X11_fouls_56 foT
    simp only [show nI j + (1 : Int32) = nI (j + 1) from nI_1 j, if_pos (ib_ok (show j < 8 by omega) (show 8 ≤ 2 ^ 31 by omega)), if_pos (ib_ok (show j + 1 < 8 by omega) (show 8 ≤ 2 ^ 31 by omega)), nI_clamp (show j < 2 ^ 31 by omega), nI_clamp (show j + 1 < 2 ^ 31 by omega), (hd j (by omega)).1, (hd (j + 1) (by omega)).1, (ha j (by omega)).1, (ha (j + 1) (by omega)).1, (hb j (by omega)).1, (hb (j + 1) hj).1]
  rw [e, foT_n (hd j (by omega)).2 (hd (j + 1) (by omega)).2 (ha j (by omega)).2 (ha (j + 1) (by omega)).2 (hb j (by omega)).2 (hb (j + 1) hj).2]
-- a cue that can be
def smN (P a b : Nat → Nat) : Nat → Nat
  | 0 => 0
  | j + 1 => smN P a b j + (if a j = b j then 0 else P j)
theorem smN_s (P a b : Nat → Nat) (i : Nat) : smN P a b (i + 1) = smN P a b i + (if a i = b i then 0 else P i) := rfl
theorem smN_le {P a b : Nat → Nat} : ∀ i, (∀ j, j < i → P j ≤ 9) → smN P a b i ≤ 9 * i
  | 0, _ => Nat.zero_le _
  | i + 1, h => by
    have h1 := smN_le (a := a) (b := b) i (fun j hj => h j (by omega))
    have h2 := h i (by omega)
    unfold smN
    split <;> omega
def CAN (n : Nat) (P dr a b : Nat → Nat) (hd : Nat) : Prop := smN P a b n ≤ hd ∧ ∀ j, j + 1 < n → ¬ foulP dr a b j
def pl (kd ld br : Nat → Nat) : Nat → Nat := fun j => pullN (kd j) (ld j) (br j)
section CB
variable {M : MM} {n : Nat} {kd ld br ht dr : Nat → Nat} {hd tr : Nat}
theorem pl_le (R : Rng n kd ld br ht dr hd tr) {j : Nat} (hj : j < 8) : pl kd ld br j ≤ 9 := pullN_le (R.2.1 j hj).2.1 (R.2.1 j hj).2.2.1
theorem c_can (h : CLo M n kd ld br ht dr hd tr) (R : Rng n kd ld br ht dr hd tr) {k1 k2 : Nat} {a b : Nat → Nat} (ha : ∀ i, i < 8 → M k1 i = nI (a i) ∧ a i ≤ 9) (hb : ∀ i, i < 8 → M k2 i = nI (b i) ∧ b i ≤ 9) {H : Nat} (hH : H ≤ 9) : ∀ (d i fuel : Nat), i + d = n → d < fuel → (∀ j, j < i → j + 1 < n → ¬ foulP dr a b j) → ∃ r : Bool, (r = true ↔ CAN n (pl kd ld br) dr a b H) ∧ g_X1_canBe_6 M k1 k2 fuel (nI H) (nI (smN (pl kd ld br) a b i)) (nI i) = some (b2i r) := by
  have n8 := R.1
  have hd' : ∀ i, i < 8 → M 22 i = nI (dr i) ∧ dr i ≤ 9 := fun i hi => ⟨h.2.2.1 i hi, by have := (R.2.1 i hi).2.2.2.2; omega⟩
  have sb : ∀ i, i ≤ 8 → smN (pl kd ld br) a b i ≤ 72 := fun i hi => by have := smN_le (P := pl kd ld br) (a := a) (b := b) i (fun j hj => pl_le R (by omega)); omega
  intro d
  induction d with
  | zero =>
    intro i fuel h1 h2 nf
    obtain ⟨f, rfl⟩ : ∃ f, fuel = f + 1 := ⟨fuel - 1, by omega⟩
    obtain rfl : i = n := by omega
    have := sb i n8
    refine ⟨decide (smN (pl kd ld br) a b i ≤ H), ?_, ?_⟩
    · rw [decide_eq_true_iff]
      exact ⟨fun q => ⟨q, fun j hj => nf j (by omega) hj⟩, fun q => q.1⟩
    · rw [g_X1_canBe_6, h.1, if_pos (nI_le (Nat.le_refl i) (by omega))]
      by_cases q : smN (pl kd ld br) a b i ≤ H
      · rw [if_neg (nI_nlt q (by omega)), decide_eq_true q]; rfl
      · rw [if_pos (nI_lt (by omega) (by omega)), decide_eq_false q]; rfl
  | succ d ih =>
    intro i fuel h1 h2 nf
    obtain ⟨f, rfl⟩ : ∃ f, fuel = f + 1 := ⟨fuel - 1, by omega⟩
    have hi : i < 8 := by omega
    obtain ⟨a1, a2⟩ := ha i hi
    obtain ⟨b1, b2⟩ := hb i hi
    have key : ∀ s0 : Nat, s0 = (if a i = b i then 0 else pl kd ld br i) → ∃ r : Bool, (r = true ↔ CAN n (pl kd ld br) dr a b H) ∧ g_X1_canBe_38 M (g_X1_canBe_6 M k1 k2 f) k1 k2 (nI H) (nI i) (nI s0) (nI (smN (pl kd ld br) a b i)) = some (b2i r) := by
      intro s0 hs0
      unfold g_X1_canBe_38
      simp only [nm_eq, show nI i + (1 : Int32) = nI (i + 1) from nI_1 i, h.1]
      have es : nI (smN (pl kd ld br) a b i) + nI s0 = nI (smN (pl kd ld br) a b (i + 1)) := by rw [nI_add, hs0]; rfl
      rw [es]
      by_cases hlast : i + 1 < n
      · rw [if_neg (nI_ge (by omega) (by omega)), c_foul (by omega) hd' ha hb]
        simp only [br_s, b2i0]
        by_cases hf : foulP dr a b i
        · rw [if_neg (by simp [hf])]
          exact ⟨false, ⟨fun q => (by cases q), fun q => absurd hf (q.2 i hlast)⟩, rfl⟩
        · rw [if_pos (decide_eq_false hf)]
          exact ih (i + 1) f (by omega) (by omega) (fun j hj hj2 => by
            by_cases e : j = i
            · subst e; exact hf
            · exact nf j (by omega) hj2)
      · rw [if_pos (nI_le (by omega) (by omega))]
        exact ih (i + 1) f (by omega) (by omega) (fun j hj hj2 => nf j (by omega) hj2)
    rw [g_X1_canBe_6, h.1, if_neg (nI_ge (by omega) (by omega)), if_pos (ib_ok hi (by omega)), if_pos (ib_ok hi (by omega)), nI_clamp (by omega), a1, b1]
    by_cases q : a i = b i
    · rw [if_pos (by rw [q])]
      exact key 0 (by rw [if_pos q])
    · rw [if_neg (fun z => q (nI_inj (by omega) (by omega) z)), c_pull h R hi]
      simp only [br_s]
      exact key _ (by rw [if_neg q]; rfl)
theorem c_canBe (h : CLo M n kd ld br ht dr hd tr) (R : Rng n kd ld br ht dr hd tr) {k1 k2 : Nat} {a b : Nat → Nat} (ha : ∀ i, i < 8 → M k1 i = nI (a i) ∧ a i ≤ 9) (hb : ∀ i, i < 8 → M k2 i = nI (b i) ∧ b i ≤ 9) {H : Nat} (hH : H ≤ 9) : ∃ r : Bool, (r = true ↔ CAN n (pl kd ld br) dr a b H) ∧ f_X1_canBe M k1 k2 (nI H) = some (b2i r) :=
  c_can h R ha hb hH n 0 FU (by omega) (by have := R.1; have := FU_eq; omega) (fun j hj => by omega)
theorem m_canF {a b : Nat → Nat} (h : MLo M n kd ld br a dr hd tr) (R : Rng n kd ld br a dr hd tr) (hn : 1 ≤ n) (hb : ∀ i, i < n → M 93 i = nI (b i) ∧ b i ≤ 9) : ∀ (d i fuel : Nat), i + d = n - 1 → d < fuel → (∀ j, j < i → j + 1 < n → ¬ foulP dr a b j) → ∃ r : Bool, (r = true ↔ ∀ j, j + 1 < n → ¬ foulP dr a b j) ∧ g_X11_canBe_57 M fuel (nI i) = some (b2i r) := by
  have n8 := R.1
  have hd' : ∀ i, i < 8 → M 91 i = nI (dr i) ∧ dr i ≤ 9 := fun i hi => ⟨h.2.2.1 i hi, by have := (R.2.1 i hi).2.2.2.2; omega⟩
  have ha : ∀ i, i < 8 → M 90 i = nI (a i) ∧ a i ≤ 9 := fun i hi => ⟨h.2.2.2.2.2.1 i hi, (R.2.1 i hi).2.2.2.1⟩
  have e1 : nI n - (1 : Int32) = nI (n - 1) := pk_sub (b := 1) hn
  intro d
  induction d with
  | zero =>
    intro i fuel h1 h2 nf
    obtain ⟨f, rfl⟩ : ∃ f, fuel = f + 1 := ⟨fuel - 1, by omega⟩
    obtain rfl : i = n - 1 := by omega
    rw [g_X11_canBe_57, h.1, e1, if_pos (nI_le (Nat.le_refl _) (by omega))]
    exact ⟨true, ⟨fun _ j hj => nf j (by omega) hj, fun _ => rfl⟩, rfl⟩
  | succ d ih =>
    intro i fuel h1 h2 nf
    obtain ⟨f, rfl⟩ : ∃ f, fuel = f + 1 := ⟨fuel - 1, by omega⟩
    rw [g_X11_canBe_57, h.1, e1, if_neg (nI_ge (by omega) (by omega)), m_foul n8 (by omega) hd' ha hb]
    simp only [br_s, b2i0, show nI i + (1 : Int32) = nI (i + 1) from nI_1 i]
    by_cases hf : foulP dr a b i
    · rw [if_neg (by simp [hf])]
      exact ⟨false, ⟨fun q => (by cases q), fun q => absurd hf (q i (by omega))⟩, rfl⟩
    · rw [if_pos (decide_eq_false hf)]
      exact ih (i + 1) f (by omega) (by omega) (fun j hj hj2 => by
        by_cases e : j = i
        · subst e; exact hf
        · exact nf j (by omega) hj2)
theorem m_canS {a b : Nat → Nat} (h : MLo M n kd ld br a dr hd tr) (R : Rng n kd ld br a dr hd tr) (hb : ∀ i, i < n → M 93 i = nI (b i) ∧ b i ≤ 9) : ∀ (d i fuel : Nat), i + d = n → d < fuel → g_X11_canBe_4 M fuel (nI (smN (pl kd ld br) a b i)) (nI i) = (if nI (smN (pl kd ld br) a b n) ≤ nI hd then g_X11_canBe_57 M FU (0 : Int32) else some (0 : Int32)) := by
  have n8 := R.1
  intro d
  induction d with
  | zero =>
    intro i fuel h1 h2
    obtain ⟨f, rfl⟩ : ∃ f, fuel = f + 1 := ⟨fuel - 1, by omega⟩
    obtain rfl : i = n := by omega
    rw [g_X11_canBe_4, h.1, if_pos (nI_le (Nat.le_refl i) (by omega)), h.2.2.2.2.2.2.1]
  | succ d ih =>
    intro i fuel h1 h2
    obtain ⟨f, rfl⟩ : ∃ f, fuel = f + 1 := ⟨fuel - 1, by omega⟩
    have hi : i < 8 := by omega
    have a2 := (R.2.1 i hi).2.2.2.1
    obtain ⟨b1, b2⟩ := hb i (by omega)
    have ih' := ih (i + 1) f (by omega) (by omega)
    rw [g_X11_canBe_4, h.1, if_neg (nI_ge (by omega) (by omega)), if_pos (ib_ok hi (by omega)), if_pos (ib_ok hi (by omega)), nI_clamp (by omega), b1, h.2.2.2.2.2.1 i hi]
    simp only [nm_eq, show nI i + (1 : Int32) = nI (i + 1) from nI_1 i]
    by_cases q : a i = b i
    · rw [if_pos (by rw [q]), show nI (smN (pl kd ld br) a b i) + (0 : Int32) = nI (smN (pl kd ld br) a b (i + 1)) from by rw [show (0 : Int32) = nI 0 from rfl, nI_add, smN_s, if_pos q]]
      exact ih'
    · rw [if_neg (fun z => q (nI_inj (by omega) (by omega) z).symm), m_pull h R hi]
      simp only [br_s]
      rw [show nI (smN (pl kd ld br) a b i) + nI (pullN (kd i) (ld i) (br i)) = nI (smN (pl kd ld br) a b (i + 1)) from by rw [nI_add, smN_s, if_neg q]; rfl]
      exact ih'
theorem m_canBe {a b : Nat → Nat} (h : MLo M n kd ld br a dr hd tr) (R : Rng n kd ld br a dr hd tr) (hn : 1 ≤ n) (hb : ∀ i, i < n → M 93 i = nI (b i) ∧ b i ≤ 9) : ∃ r : Bool, (r = true ↔ CAN n (pl kd ld br) dr a b hd) ∧ f_X11_canBe M = some (b2i r) := by
  have n8 := R.1
  have hs : smN (pl kd ld br) a b n ≤ 72 := by have := smN_le (P := pl kd ld br) (a := a) (b := b) n (fun j hj => pl_le R (by omega)); omega
  have e := m_canS h R hb n 0 FU (by omega) (by have := FU_eq; omega)
  obtain ⟨r, r1, r2⟩ := m_canF h R hn hb (n - 1) 0 FU (by omega) (by have := FU_eq; omega) (fun j hj => by omega)
  have e0 : f_X11_canBe M = g_X11_canBe_4 M FU (nI (smN (pl kd ld br) a b 0)) (nI 0) := rfl
  rw [e0, e]
  by_cases q : smN (pl kd ld br) a b n ≤ hd
  · rw [if_pos (nI_le q (by have := R.2.2.1; omega))]
    exact ⟨r, ⟨fun z => ⟨q, r1.mp z⟩, fun z => r1.mpr z.2⟩, r2⟩
  · rw [if_neg (nI_ge (by omega) (by omega))]
    exact ⟨false, ⟨fun z => (by cases z), fun z => absurd z.1 q⟩, rfl⟩
end CB
