-- the class's pictures
section PCL
variable {n : Nat} {kd ld bw ht dr : Nat → Nat} {hd tr : Nat}
def Tri (M : MM) (ht P : Nat → Nat) (hd b : Nat) : Prop := ∀ k, k < 3 → M 72 (3 * b + k) = nI (pla ht b k) ∧ M 73 (3 * b + k) = nI (ctF ht P hd b (pla ht b k))
theorem pla_9 {b k : Nat} (h : ht b ≤ 9) : pla ht b k ≤ 9 := by
  unfold pla
  split
  · omega
  · split <;> omega
theorem ct_le {P : Nat → Nat} {b x : Nat} (h1 : P b ≤ 9) (h2 : x ≤ 9) (h3 : ht b ≤ 9) : ctF ht P hd b x ≤ 1000000 := by
  have := adN_le h2 h3
  have : P b * adN x (ht b) ≤ 9 * 9 := Nat.mul_le_mul h1 this
  unfold ctF
  split
  · omega
  · split <;> omega
theorem ad_0 {x y : Nat} : adN x y = 0 ↔ x = y := by unfold adN; omega
theorem c_setL (R : Rng n kd ld bw ht dr hd tr) {b : Nat} (hb : b < 8) : ∀ (d k fuel : Nat) (M : MM), M 23 4 = nI hd → (∀ i, i < 3 → M 72 (3 * b + i) = nI (pla ht b i)) → k + d = 3 → d < fuel → ∃ M' : MM, g_X4_setTried_54 fuel M (nI b) (nI (ht b)) (nI (pl kd ld bw b)) (nI (3 * b + k)) = some M' ∧ (∀ i, k ≤ i → i < 3 → M' 73 (3 * b + i) = nI (ctF ht (pl kd ld bw) hd b (pla ht b i))) ∧ ∀ x j, ¬ (x = 73 ∧ 3 * b + k ≤ j ∧ j < 3 * b + 3) → M' x j = M x j := by
  have h9 := (R.2.1 b hb).2.2.2.1
  have p9 := pl_le R hb
  have h6 := R.2.2.1
  intro d
  induction d with
  | zero =>
    intro k fuel M h1 h2 h3 h4
    obtain ⟨f, rfl⟩ : ∃ f, fuel = f + 1 := ⟨fuel - 1, by omega⟩
    obtain rfl : k = 3 := by omega
    rw [g_X4_setTried_54, show nI b + (1 : Int32) = nI (b + 1) from nI_1 b, show nI (b + 1) * (3 : Int32) = nI ((b + 1) * 3) from pk_mul _ 3, if_pos (nI_le (by omega) (by omega))]
    exact ⟨M, rfl, fun i g1 g2 => by omega, fun _ _ _ => rfl⟩
  | succ d ih =>
    intro k fuel M h1 h2 h3 h4
    obtain ⟨f, rfl⟩ : ∃ f, fuel = f + 1 := ⟨fuel - 1, by omega⟩
    have bo := ib_ok (show 3 * b + k < 24 by omega) (show 24 ≤ 2 ^ 31 by omega)
    have x9 : pla ht b k ≤ 9 := pla_9 h9
    have ha := adN_le x9 h9
    rw [g_X4_setTried_54, show nI b + (1 : Int32) = nI (b + 1) from nI_1 b, show nI (b + 1) * (3 : Int32) = nI ((b + 1) * 3) from pk_mul _ 3, if_neg (nI_ge (by omega) (by omega)), if_pos bo, nI_clamp (by omega), h2 k (by omega), ab_d _ (by omega) _ (by omega), nm_eq, h1]
    have key : ∀ s0 : Nat, (¬ adN (pla ht b k) (ht b) = 0 → s0 = ctF ht (pl kd ld bw) hd b (pla ht b k)) → ∃ M' : MM, g_X4_setTried_104 (g_X4_setTried_54 f) M (nI b) (nI (ht b)) (nI (pl kd ld bw b)) (nI (3 * b + k)) (nI (adN (pla ht b k) (ht b))) (nI s0) = some M' ∧ (∀ i, k ≤ i → i < 3 → M' 73 (3 * b + i) = nI (ctF ht (pl kd ld bw) hd b (pla ht b i))) ∧ ∀ x j, ¬ (x = 73 ∧ 3 * b + k ≤ j ∧ j < 3 * b + 3) → M' x j = M x j := by
      intro s0 hs
      have go : ∀ v : Nat, v = ctF ht (pl kd ld bw) hd b (pla ht b k) → ∃ M' : MM, g_X4_setTried_54 f (up2 M 73 (3 * b + k) (nI v)) (nI b) (nI (ht b)) (nI (pl kd ld bw b)) (nI (3 * b + (k + 1))) = some M' ∧ (∀ i, k ≤ i → i < 3 → M' 73 (3 * b + i) = nI (ctF ht (pl kd ld bw) hd b (pla ht b i))) ∧ ∀ x j, ¬ (x = 73 ∧ 3 * b + k ≤ j ∧ j < 3 * b + 3) → M' x j = M x j := by
        intro v hv
        obtain ⟨M', e1, e2, e3⟩ := ih (k + 1) f (up2 M 73 (3 * b + k) (nI v)) (by rw [up2_of (by omega)]; exact h1) (fun i hi => by rw [up2_of (by omega)]; exact h2 i hi) (by omega) (by omega)
        refine ⟨M', e1, fun i g1 g2 => ?_, fun x j r => by rw [e3 x j (by omega), up2_of (by omega)]⟩
        by_cases e : i = k
        · subst e
          rw [e3 _ _ (by omega), up2_at, hv]
        · exact e2 i (by omega) g2
      unfold g_X4_setTried_104
      rw [if_pos bo, if_pos bo, nI_clamp (by omega), nm_eq, nm_eq, show nI (3 * b + k) + (1 : Int32) = nI (3 * b + (k + 1)) from nI_1 _]
      by_cases q : adN (pla ht b k) (ht b) = 0
      · rw [if_pos (show nI (adN (pla ht b k) (ht b)) = 0 by rw [q]; rfl)]
        exact go 0 (by unfold ctF; rw [if_pos (ad_0.mp q)])
      · rw [if_neg (nI_n0 (by omega) (by omega))]
        exact go s0 (hs q)
    by_cases qp : pl kd ld bw b ≤ hd
    · rw [if_pos (nI_le qp (by omega)), pk_mul, show (1000 : Int32) + nI (pl kd ld bw b * adN (pla ht b k) (ht b)) = nI (1000 + pl kd ld bw b * adN (pla ht b k) (ht b)) from nI_add 1000 _]
      exact key _ (fun q => by unfold ctF; rw [if_neg (fun z => q (ad_0.mpr z)), if_pos qp])
    · rw [if_neg (nI_ge (by omega) (by omega)), show (1000000 : Int32) = nI 1000000 from rfl]
      exact key _ (fun q => by unfold ctF; rw [if_neg (fun z => q (ad_0.mpr z)), if_neg qp])
theorem c_setT {M : MM} (h : CLo M n kd ld bw ht dr hd tr) (R : Rng n kd ld bw ht dr hd tr) {b : Nat} (hb : b < 8) : ∃ M' : MM, f_X4_setTried M (nI b) = some M' ∧ Tri M' ht (pl kd ld bw) hd b ∧ ∀ x j, ¬ ((x = 72 ∨ x = 73) ∧ 3 * b ≤ j ∧ j < 3 * b + 3) → M' x j = M x j := by
  unfold f_X4_setTried
  rw [if_pos (ib_ok hb (by omega)), nI_clamp (by omega), nm_eq, c_pull h R hb, br_s, show nI b * (3 : Int32) = nI (b * 3) from pk_mul b 3, show b * 3 = 3 * b by omega, show nI (3 * b) + (1 : Int32) = nI (3 * b + 1) from nI_add _ 1, show nI (3 * b) + (2 : Int32) = nI (3 * b + 2) from nI_add _ 2, if_pos (ib_ok (by omega) (by omega)), nI_clamp (by omega), nm_eq, if_pos (ib_ok (by omega) (by omega)), nI_clamp (by omega), nm_eq, if_pos (ib_ok (by omega) (by omega)), nI_clamp (by omega), nm_eq, nm_eq, h.2.2.2.2.2.1 b hb]
  generalize eM : up2 (up2 (up2 M 72 (3 * b) 0) 72 (3 * b + 1) (nI (ht b))) 72 (3 * b + 2) 9 = M6
  have u : ∀ x j, ¬ (x = 72 ∧ 3 * b ≤ j ∧ j < 3 * b + 3) → M6 x j = M x j := fun x j r => by rw [← eM, up2_of (by omega), up2_of (by omega), up2_of (by omega)]
  have t6 : ∀ i, i < 3 → M6 72 (3 * b + i) = nI (pla ht b i) := fun i hi => by
    rcases (show i = 0 ∨ i = 1 ∨ i = 2 by omega) with rfl | rfl | rfl
    · rw [← eM, up2_of (by omega), up2_of (by omega)]
      show up2 M 72 (3 * b) 0 72 (3 * b) = _
      rw [up2_at]
      rfl
    · rw [← eM, up2_of (by omega), up2_at]
      rfl
    · rw [← eM, up2_at]
      rfl
  obtain ⟨M', e1, e2, e3⟩ := c_setL R hb 3 0 FU M6 (by rw [u _ _ (by omega)]; exact h.2.2.2.2.2.2.1) t6 (by omega) (by have := FU_eq; omega)
  exact ⟨M', e1, fun k hk => ⟨by rw [e3 _ _ (by omega)]; exact t6 k hk, e2 k (by omega) hk⟩, fun x j r => by rw [e3 x j (by omega), u x j (by omega)]⟩
theorem mn_n {a b : Nat} (ha : a < 2 ^ 31) (hb : b < 2 ^ 31) : mn32 (nI a) (nI b) = nI (min a b) := by
  unfold mn32
  by_cases e : b < a
  · rw [if_pos (nI_lt e ha), show min a b = b by omega]
  · rw [if_neg (nI_nlt (by omega) hb), show min a b = a by omega]
theorem c_cost {M : MM} (h : CLo M n kd ld bw ht dr hd tr) (R : Rng n kd ld bw ht dr hd tr) {b s bound k : Nat} (hb : b < 8) (hs : s < 256) (hbo : bound ≤ 9) (hk : k < 3) (hT : Tri M ht (pl kd ld bw) hd b) {Ln : Nat → Nat} (hN : ∀ x, x < 10 → Ln x ≤ 1000000 ∧ M 74 (10 * (b + 1) + x) = nI (Ln x)) : f_X4_costFrom M (nI s) (nI b) (nI bound) (nI k) = some (nI (cFv ht dr (pl kd ld bw) hd (fun i => s.testBit i) b bound (pla ht b k) Ln)) := by
  have h9 := (R.2.1 b hb).2.2.2.1
  have x9 : pla ht b k ≤ 9 := pla_9 h9
  obtain ⟨t1, t2⟩ := hT k hk
  have bo := ib_ok (show 3 * b + k < 24 by omega) (show 24 ≤ 2 ^ 31 by omega)
  have e46 : ∀ (v7 s0 : Int32), g_X4_costFrom_46 M (nI b) (nI bound) (nI k) (nI (pla ht b k - dr b)) v7 s0 = if s0 = v7 then some (nI (min 1000000 (ctF ht (pl kd ld bw) hd b (pla ht b k) + Ln (min bound (pla ht b k - dr b))))) else some (nI 1000000) := fun v7 s0 => by
    obtain ⟨n1, n2⟩ := hN (min bound (pla ht b k - dr b)) (by omega)
    have c9 := ct_le (ht := ht) (hd := hd) (P := pl kd ld bw) (b := b) (pl_le R hb) x9 h9
    unfold g_X4_costFrom_46
    rw [mn_n (by omega) (by omega), show nI b + (1 : Int32) = nI (b + 1) from nI_1 b, show nI (b + 1) * (10 : Int32) = nI ((b + 1) * 10) from pk_mul _ 10, nI_add, show (b + 1) * 10 + min bound (pla ht b k - dr b) = 10 * (b + 1) + min bound (pla ht b k - dr b) by omega, if_pos (ib_ok (by omega) (by omega)), nI_clamp (by omega), n2, nm_eq, show nI b * (3 : Int32) = nI (b * 3) from pk_mul b 3, nI_add, show b * 3 + k = 3 * b + k by omega, if_pos bo, nI_clamp (by omega), t2, nI_add, show (1000000 : Int32) = nI 1000000 from rfl, mn_n (by omega) (by omega)]
  unfold f_X4_costFrom
  rw [show nI b * (3 : Int32) = nI (b * 3) from pk_mul b 3, nI_add, show b * 3 + k = 3 * b + k by omega, if_pos bo, nI_clamp (by omega), t1, c_edge h R hb x9, br_s, sb_d s hs b hb, e46, e46, e46, e46]
  unfold cFv
  cases q : s.testBit b with
  | true =>
    rw [if_pos (by decide)]
    by_cases e : bound ≤ pla ht b k - dr b
    · rw [if_pos (nI_le e (by omega)), if_neg (by decide), decide_eq_false (by omega), if_neg (show ¬ false = s.testBit b by rw [q]; decide)]
    · rw [if_neg (nI_ge (by omega) (by omega)), if_pos rfl, decide_eq_true (by omega), if_pos (show true = s.testBit b from q.symm)]
  | false =>
    rw [if_neg (by decide)]
    by_cases e : bound ≤ pla ht b k - dr b
    · rw [if_pos (nI_le e (by omega)), if_pos rfl, decide_eq_false (by omega), if_pos (show false = s.testBit b from q.symm)]
    · rw [if_neg (nI_ge (by omega) (by omega)), if_neg (by decide), decide_eq_true (by omega), if_neg (show ¬ true = s.testBit b by rw [q]; decide)]
theorem c_least {M : MM} (h : CLo M n kd ld bw ht dr hd tr) (R : Rng n kd ld bw ht dr hd tr) {b s bound d : Nat} (hb : b < 8) (hs : s < 256) (hbo : bound ≤ 9) (hT : Tri M ht (pl kd ld bw) hd b) (hN : ∀ x, x < 10 → M 74 (10 * (b + 1) + x) = nI (Lf ht dr (pl kd ld bw) hd (fun i => s.testBit i) d (b + 1) x)) : f_X4_leastFrom M (nI s) (nI b) (nI bound) = some (nI (Lf ht dr (pl kd ld bw) hd (fun i => s.testBit i) (d + 1) b bound)) := by
  have cc : ∀ k, k < 3 → f_X4_costFrom M (nI s) (nI b) (nI bound) (nI k) = some (nI (cFv ht dr (pl kd ld bw) hd (fun i => s.testBit i) b bound (pla ht b k) (Lf ht dr (pl kd ld bw) hd (fun i => s.testBit i) d (b + 1)))) := fun k hk => c_cost h R hb hs hbo hk hT (fun x hx => ⟨Lf_le _ _ _, hN x hx⟩)
  have c0 : f_X4_costFrom M (nI s) (nI b) (nI bound) (0 : Int32) = _ := cc 0 (by omega)
  have c1 : f_X4_costFrom M (nI s) (nI b) (nI bound) (1 : Int32) = _ := cc 1 (by omega)
  have c2 : f_X4_costFrom M (nI s) (nI b) (nI bound) (2 : Int32) = _ := cc 2 (by omega)
  have l0 := cFv_le (own := ht) (dr := dr) (P := pl kd ld bw) (hd := hd) (w := fun i => s.testBit i) b bound (pla ht b 0) (Lf ht dr (pl kd ld bw) hd (fun i => s.testBit i) d (b + 1))
  have l1 := cFv_le (own := ht) (dr := dr) (P := pl kd ld bw) (hd := hd) (w := fun i => s.testBit i) b bound (pla ht b 1) (Lf ht dr (pl kd ld bw) hd (fun i => s.testBit i) d (b + 1))
  have l2 := cFv_le (own := ht) (dr := dr) (P := pl kd ld bw) (hd := hd) (w := fun i => s.testBit i) b bound (pla ht b 2) (Lf ht dr (pl kd ld bw) hd (fun i => s.testBit i) d (b + 1))
  unfold f_X4_leastFrom
  rw [show FU = 6996 + 1 + 1 + 1 + 1 from rfl, g_X4_leastFrom_7, if_neg (by decide), c0, br_s, nm_eq, show (1000000 : Int32) = nI 1000000 from rfl, mn_n (by omega) (by omega), show (0 : Int32) + (1 : Int32) = 1 from rfl, g_X4_leastFrom_7, if_neg (by decide), c1, br_s, nm_eq, mn_n (by omega) (by omega), show (1 : Int32) + (1 : Int32) = 2 from rfl, g_X4_leastFrom_7, if_neg (by decide), c2, br_s, nm_eq, mn_n (by omega) (by omega), show (2 : Int32) + (1 : Int32) = 3 from rfl, g_X4_leastFrom_7, if_pos (by decide), Lf_s]
  rfl
/-- from b on all is told -/
def Dn (M : MM) (ht dr P : Nat → Nat) (hd s n b : Nat) : Prop := (∀ x, b ≤ x → x < n → Tri M ht P hd x) ∧ ∀ x, b ≤ x → x ≤ n → ∀ bd, bd < 10 → M 74 (10 * x + bd) = nI (Lf ht dr P hd (fun i => s.testBit i) (n - x) x bd)
theorem c_bdL (R : Rng n kd ld bw ht dr hd tr) {b s : Nat} (hb : b < n) (hs : s < 256) (rec : MM → Int32 → Int32 → Option (Int32 × MM)) : ∀ (d bd fuel : Nat) (M : MM), CLo M n kd ld bw ht dr hd tr → Tri M ht (pl kd ld bw) hd b → Dn M ht dr (pl kd ld bw) hd s n (b + 1) → (∀ x, x < bd → M 74 (10 * b + x) = nI (Lf ht dr (pl kd ld bw) hd (fun i => s.testBit i) (n - b) b x)) → bd + d = 10 → d < fuel → ∃ M' : MM, g_X4_find_49 rec fuel M (nI s) (nI b) (nI bd) = rec M' (nI s) (nI b - (1 : Int32)) ∧ Dn M' ht dr (pl kd ld bw) hd s n b ∧ ∀ x j, x ≠ 74 → M' x j = M x j := by
  have n8 := R.1
  intro d
  induction d with
  | zero =>
    intro bd fuel M h hT hD h1 h2 h3
    obtain ⟨f, rfl⟩ : ∃ f, fuel = f + 1 := ⟨fuel - 1, by omega⟩
    obtain rfl : bd = 10 := by omega
    rw [g_X4_find_49, if_pos (by decide), dm2]
    refine ⟨M, rfl, ⟨fun x g1 g2 => ?_, fun x g1 g2 bd hbd => ?_⟩, fun _ _ _ => rfl⟩
    · by_cases e : x = b
      · subst e; exact hT
      · exact hD.1 x (by omega) g2
    · by_cases e : x = b
      · subst e; exact h1 bd hbd
      · exact hD.2 x (by omega) g2 bd hbd
  | succ d ih =>
    intro bd fuel M h hT hD h1 h2 h3
    obtain ⟨f, rfl⟩ : ∃ f, fuel = f + 1 := ⟨fuel - 1, by omega⟩
    have el := c_least h R (b := b) (s := s) (bound := bd) (d := n - (b + 1)) (by omega) hs (by omega) hT (fun x hx => hD.2 (b + 1) (by omega) (by omega) x hx)
    rw [show n - (b + 1) + 1 = n - b by omega] at el
    rw [g_X4_find_49, if_neg (show ¬ (10 : Int32) ≤ nI bd from nI_ge (b := 10) (by omega) (by omega)), el, br_s, show nI b * (10 : Int32) = nI (b * 10) from pk_mul b 10, nI_add, show b * 10 + bd = 10 * b + bd by omega, if_pos (ib_ok (by omega) (by omega)), nI_clamp (by omega), nm_eq, show nI bd + (1 : Int32) = nI (bd + 1) from nI_1 bd]
    generalize eM : up2 M 74 (10 * b + bd) _ = Ma
    have u : ∀ x j, ¬ (x = 74 ∧ j = 10 * b + bd) → Ma x j = M x j := fun x j r => by rw [← eM, up2_of r]
    obtain ⟨M', e1, e2, e3⟩ := ih (bd + 1) f Ma (h.cong (fun k j _ r => u k j (by unfold relLo at r; omega))) (fun k hk => by rw [u _ _ (by omega), u _ _ (by omega)]; exact hT k hk) ⟨fun x g1 g2 k hk => by rw [u _ _ (by omega), u _ _ (by omega)]; exact hD.1 x g1 g2 k hk, fun x g1 g2 bd' hbd => by rw [u _ _ (by omega)]; exact hD.2 x g1 g2 bd' hbd⟩ (fun x hx => by
      by_cases e : x = bd
      · subst e
        rw [← eM, up2_at]
      · rw [u _ _ (by omega)]
        exact h1 x (by omega)) (by omega) (by omega)
    exact ⟨M', e1, e2, fun x j r => by rw [e3 x j r, u x j (by omega)]⟩
end PCL
