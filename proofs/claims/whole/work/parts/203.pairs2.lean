-- the way of a call that takes pairs from a sheet: both sides up to where they go on
def PRS (M : MM) (n : Nat) (kd ld br ht dr : Nat → Nat) (hd tr j i0 m : Nat) (mb mh : Nat → Nat) : Prop := LoI M n kd ld br ht dr hd tr ∧ MsI (up2 M 83 0 0) ∧ ShI M ∧ PsI M ∧ ImI M ∧ RdI M n ∧ n ≠ 0 ∧ m ≤ 20 ∧ j < 4 ∧ 60 * j + i0 + 2 * m ≤ 240 ∧ M 65 2 = nI m ∧ (∀ k, k < m → mb k < n ∧ mh k ≤ 9 ∧ M 66 k = nI (mb k) ∧ M 67 k = nI (mh k) ∧ M 86 (60 * j + i0 + 2 * k) = nI (mb k) ∧ M 86 (60 * j + i0 + 2 * k + 1) = nI (mh k))
theorem pairs_step {M : MM} (h : Inv M) {j : Nat} (hj : j < 4) (v2 v3 : Int32) {m : Nat} (hm : m ≤ 20) (KC : MM → Option (Int32 × MM)) (KM : MM → Int32 → Option (Int32 × MM))
    (go : ∀ (M' : MM) (n : Nat) (kd ld br ht dr : Nat → Nat) (hd tr i0 : Nat) (mb mh : Nat → Nat), PRS M' n kd ld br ht dr hd tr j i0 m mb mh → ∃ r M1 M2, KC M' = some (r, M1) ∧ (∀ k i, 83 ≤ k → M1 k i = M' k i) ∧ KM (up2 M1 83 0 0) (nI (60 * j + i0)) = some (r, M2) ∧ Inv M2) :
    ∃ (r : Int32) (M1 M2 : MM), (bi (f_X10_takeMoves (up2 M 0 11 0) (2 + 2 * j) v2 v3 (nI m)) fun r9 M10 => (if r9 = 0 then KC M10 else some (r9, M10))) = some (r, M1) ∧ (br (f_X11_against (up2 M1 83 0 0) (nI j) v2 v3 ((2 : Int32) * nI m)) fun r8 => (if r8 = 0 then (if (up2 M1 83 0 0) 83 5 = 0 then some ((-3 : Int32), (up2 M1 83 0 0)) else (nm (((60 : Int32) * nI j) + v3) fun x10 => (br (f_X11_refusesPairs (up2 M1 83 0 0) x10 (nI m)) fun r11 => (if r11 = 0 then KM (up2 M1 83 0 0) x10 else some (r11, (up2 M1 83 0 0)))))) else (bi (f_X11_fails (up2 M1 83 0 0) r8) fun r18 M19 => some (r18, M19)))) = some (r, M2) ∧ Inv M2 := by
  obtain ⟨n, kd, ld, br, ht, dr, hd, tr, hL, hS, h3, h4, h5, h6⟩ := id h
  obtain ⟨s1, s2, s3, s4, L, s5, s6, s7⟩ := h3 j hj
  have n8 := hL.n8
  generalize eM : up2 M 0 11 0 = Ma
  have u : ∀ k i, ¬ (k = 0 ∧ i = 11) → Ma k i = M k i := fun k i r => by rw [← eM, up2_of r]
  have hl : ¬ M (2 + 2 * j) 1 = 0 → ¬ M (2 + 2 * j) 2 = -9 := fun q => isD2_ne (s3 (by rcases s1 with z | z; exact absurd z q; exact z))
  have e2m : (2 : Int32) * nI m = nI (2 * m) := pk_mul 2 m
  have ct := c_fault (M := Ma) (k0 := 2 + 2 * j) (L := L) (by rw [u _ _ (by omega)]; exact s6) v2 v3 (nI (2 * m))
  rw [u _ _ (by omega), u _ _ (by omega)] at ct
  have ma : ∀ M1 : MM, (∀ k i, k = 84 ∨ k = 85 → M1 k i = M k i) → f_X11_against M1 (nI j) v2 v3 (nI (2 * m)) = some (foS (M (2 + 2 * j) 1) (M (2 + 2 * j) 2) L v2 v3 (nI (2 * m))) := fun M1 q => m_against hj (by rw [q 85 j (by omega), s4]; exact s6) (by rw [q 84 j (by omega)]; exact s2) hl v2 v3 _
  unfold f_X10_takeMoves
  rw [e2m, ct, br_s]
  by_cases hf : foS (M (2 + 2 * j) 1) (M (2 + 2 * j) 2) L v2 v3 (nI (2 * m)) = 0
  · rw [if_pos hf]
    obtain ⟨i0, rfl, hi0⟩ := foS0 s5 (by omega) hf
    have e60 : ((60 : Int32) * nI j) + nI i0 = nI (60 * j + i0) := by rw [show (60 : Int32) * nI j = nI (60 * j) from pk_mul 60 j, nI_add]
    rw [u 20 3 (by omega), hL.n1]
    by_cases hn : n = 0
    · subst hn
      rw [if_pos (show nI 0 = 0 from rfl), bi_s, if_neg (by decide)]
      refine ⟨-3, Ma, up2 Ma 83 0 0, rfl, ?_, ?_⟩
      · rw [ma _ (fun k i q => by rw [up2_of (by omega), u k i (by omega)]), br_s, if_pos hf, if_pos (by rw [up2_of (by omega), u 83 5 (by omega)]; exact hL.n2)]
      · rw [← eM]; exact h.flt1 0
    · rw [if_neg (nI_n0 (by omega) (by omega)), nm_eq]
      obtain ⟨M', t1, t2, t3, t4⟩ := c_takeL (n := n) n8 (k1 := 2 + 2 * j) (i0 := i0) (m := m) (C := fun q => M (3 + 2 * j) (i0 + q)) (by omega) (by omega) hm m 0 FU (up2 Ma 65 2 0) (by rw [up2_of (by omega), u _ _ (by omega)]; exact hL.n1) (fun q => by rw [up2_of (by omega), u _ _ (by omega), show 2 + 2 * j + 1 = 3 + 2 * j by omega]) (up2_at _ _ _ _) (by omega) (by have := FU_eq; omega)
      have t1' : g_X10_takeMoves_48 (2 + 2 * j) FU (up2 Ma 65 2 0) (nI i0) (nI m) 0 = some (scD n (fun q => M (3 + 2 * j) (i0 + q)) m 0, M') := t1
      rw [t1', bi_s]
      have w : ∀ k i, ¬ (65 ≤ k ∧ k ≤ 67) → ¬ (k = 0 ∧ i = 11) → M' k i = M k i := fun k i r1 r2 => by rw [t2 k i r1, up2_of (by omega), u k i r2]
      have rf : ∀ M1 : MM, (∀ k i, k = 86 ∨ k = 83 ∧ i = 5 → M1 k i = M k i) → f_X11_refusesPairs M1 (nI (60 * j + i0)) (nI m) = some (scD n (fun q => M (3 + 2 * j) (i0 + q)) m 0) := fun M1 q => m_refL (by rw [q _ _ (by omega)]; exact hL.n2) hm (by omega) (fun x hx => by rw [q _ _ (by omega), show 60 * j + i0 + x = 60 * j + (i0 + x) by omega]; exact (s7 (i0 + x) (by omega)).symm) m 0 FU (by omega) (by have := FU_eq; omega)
      have hms : MsI (up2 M' 83 0 0) := by
        refine ⟨?_, ?_, ?_⟩
        · rw [up2_of (by omega), up2_of (by omega), w _ _ (by omega) (by omega), w _ _ (by omega) (by omega)]; exact hS.1
        · rw [up2_of (by omega), up2_at, t2 _ _ (by omega), up2_of (by omega), ← eM, up2_at]
        · rw [up2_of (by omega), up2_of (by omega), w _ _ (by omega) (by omega), w _ _ (by omega) (by omega)]; exact hS.2.2
      have lo' : LoI M' n kd ld br ht dr hd tr := hL.cong (fun k i r => w k i (by unfold relLo at r; omega) (by unfold relLo at r; omega))
      have sh' : ShI M' := h3.cong (fun k i r => w k i (by unfold relSh at r; omega) (by unfold relSh at r; omega))
      have ps' : PsI M' := h4.cong (fun k i r => w k i (by unfold relPs at r; omega) (by unfold relPs at r; omega))
      have im' : ImI M' := h5.cong (fun k i r => w k i (by unfold relIm at r; omega) (by unfold relIm at r; omega))
      have rd' : RdI M' n := h6.cong (fun k i r => w k i (by unfold relRd at r; omega) (by unfold relRd at r; omega))
      by_cases hs : scD n (fun q => M (3 + 2 * j) (i0 + q)) m 0 = 0
      · rw [if_pos hs]
        obtain ⟨mb, mh, hmv⟩ := scD_mv (by omega) hs
        obtain ⟨z1, z2⟩ := t4 hs
        have hpr : PRS M' n kd ld br ht dr hd tr j i0 m mb mh := by
          refine ⟨lo', hms, sh', ps', im', rd', hn, hm, hj, by omega, z1, fun k hk => ?_⟩
          obtain ⟨y1, y2, y3, y4⟩ := hmv k hk
          obtain ⟨x1, x2⟩ := z2 k (by omega) hk
          have q1 := s7 (i0 + 2 * k) (by omega)
          have q2 := s7 (i0 + 2 * k + 1) (by omega)
          refine ⟨y1, y3, x1.trans y2, x2.trans y4, ?_, ?_⟩
          · rw [w _ _ (by omega) (by omega), show 60 * j + i0 + 2 * k = 60 * j + (i0 + 2 * k) by omega, ← q1]
            exact y2
          · rw [w _ _ (by omega) (by omega), show 60 * j + i0 + 2 * k + 1 = 60 * j + (i0 + 2 * k + 1) by omega, ← q2]
            exact y4
        obtain ⟨r, M1, M2, k1, k2, k3, k4⟩ := go M' n kd ld br ht dr hd tr i0 mb mh hpr
        refine ⟨r, M1, M2, k1, ?_, k4⟩
        rw [ma _ (fun k i q => by rw [up2_of (by omega), k2 k i (by omega), w k i (by omega) (by omega)]), br_s, if_pos hf, if_neg (by rw [up2_of (by omega), k2 83 5 (by omega), w 83 5 (by omega) (by omega), hL.n2]; exact nI_n0 (by omega) (by omega)), nm_eq, e60, rf _ (fun k i q => by rw [up2_of (by omega), k2 k i (by omega), w k i (by omega) (by omega)]), br_s, if_pos hs]
        exact k3
      · rw [if_neg hs]
        refine ⟨_, M', up2 M' 83 0 0, rfl, ?_, ⟨n, kd, ld, br, ht, dr, hd, tr, lo'.cong (fun k i r => up2_of (by unfold relLo at r; omega)), hms, sh'.cong (fun k i r => up2_of (by unfold relSh at r; omega)), ps'.cong (fun k i r => up2_of (by unfold relPs at r; omega)), im'.cong (fun k i r => up2_of (by unfold relIm at r; omega)), rd'.cong (fun k i r => up2_of (by unfold relRd at r; omega))⟩⟩
        rw [ma _ (fun k i q => by rw [up2_of (by omega), w k i (by omega) (by omega)]), br_s, if_pos hf, up2_of (by omega), w 83 5 (by omega) (by omega), hL.n2, if_neg (nI_n0 (by omega) (by omega)), nm_eq, e60, rf _ (fun k i q => by rw [up2_of (by omega), w k i (by omega) (by omega)]), br_s, if_neg hs]
  · have hne := foS_ne hf
    generalize foS (M (2 + 2 * j) 1) (M (2 + 2 * j) 2) L v2 v3 (nI (2 * m)) = f at ma hf hne ⊢
    rw [if_neg hf, fl10, bi_s, bi_s, if_neg hne]
    refine ⟨-10 - f, up2 Ma 0 11 f, up2 (up2 (up2 Ma 0 11 f) 83 0 0) 83 0 f, rfl, ?_, ?_⟩
    · rw [ma _ (fun k i q => by rw [up2_of (by omega), up2_of (by omega), u k i (by omega)]), br_s, if_neg hf, fl11, bi_s]
    · rw [← eM]; exact h.flt 0 0 _ _ rfl
-- a batten told twice
theorem tw1_d : ∀ s, s < 256 → ∀ b, b < 8 → ((nI s &&& sl32 (1 : Int32) (nI b) = 0) ↔ s.testBit b = false) ∧ ((sr32 (nI s) (nI b) &&& (1 : Int32) = (1 : Int32)) ↔ s.testBit b = true) ∧ (nI s ||| sl32 (1 : Int32) (nI b)) = nI (s ||| 2 ^ b) ∧ s ||| 2 ^ b < 256 := by decide +kernel
def twS (mb : Nat → Nat) : Nat → Nat → Nat → Bool
  | 0, _, _ => false
  | d + 1, k, s => if s.testBit (mb k) = true then true else twS mb d (k + 1) (s ||| 2 ^ (mb k))
theorem twS_s (mb : Nat → Nat) (d k s : Nat) : twS mb (d + 1) k s = if s.testBit (mb k) = true then true else twS mb d (k + 1) (s ||| 2 ^ (mb k)) := rfl
theorem c_tw {M : MM} {m : Nat} (hm : m ≤ 20) (h1 : M 65 2 = nI m) {mb : Nat → Nat} (h2 : ∀ k, k < m → mb k < 8 ∧ M 66 k = nI (mb k)) : ∀ (d i fuel s : Nat), i + d = m → d < fuel → s < 256 → g_X2_repeatBatten_4 M fuel (nI s) (nI i) = some (b2i (twS mb d i s)) := by
  intro d
  induction d with
  | zero =>
    intro i fuel s h3 h4 hs
    obtain ⟨f, rfl⟩ : ∃ f, fuel = f + 1 := ⟨fuel - 1, by omega⟩
    obtain rfl : i = m := by omega
    rw [g_X2_repeatBatten_4, h1, if_pos (nI_le (Nat.le_refl i) (by omega))]
    rfl
  | succ d ih =>
    intro i fuel s h3 h4 hs
    obtain ⟨f, rfl⟩ : ∃ f, fuel = f + 1 := ⟨fuel - 1, by omega⟩
    obtain ⟨b1, b2⟩ := h2 i (by omega)
    obtain ⟨q1, q2, q3, q4⟩ := tw1_d s hs (mb i) b1
    rw [g_X2_repeatBatten_4, h1, if_neg (nI_ge (by omega) (by omega)), if_pos (ib_ok (by omega) (by omega)), nI_clamp (by omega), b2, nm_eq, nm_eq, show nI i + (1 : Int32) = nI (i + 1) from nI_1 _, q3, ih (i + 1) f _ (by omega) (by omega) q4, twS_s]
    cases hb : s.testBit (mb i) with
    | true => rw [if_neg (fun z => by rw [q1.mp z] at hb; cases hb), if_pos rfl]; rfl
    | false => rw [if_pos (q1.mpr hb), if_neg (by decide)]
theorem m_tw {M : MM} {m o : Nat} (hm : m ≤ 20) (ho : o + 2 * m ≤ 240) {mb : Nat → Nat} (h2 : ∀ k, k < m → mb k < 8 ∧ M 86 (o + 2 * k) = nI (mb k)) : ∀ (d i fuel s : Nat), i + d = m → d < fuel → s < 256 → g_X11_isTwice_5 M fuel (nI o) (nI m) (nI s) (nI i) = some (b2i (twS mb d i s)) := by
  intro d
  induction d with
  | zero =>
    intro i fuel s h3 h4 hs
    obtain ⟨f, rfl⟩ : ∃ f, fuel = f + 1 := ⟨fuel - 1, by omega⟩
    obtain rfl : i = m := by omega
    rw [g_X11_isTwice_5, if_pos (nI_le (Nat.le_refl i) (by omega))]
    rfl
  | succ d ih =>
    intro i fuel s h3 h4 hs
    obtain ⟨f, rfl⟩ : ∃ f, fuel = f + 1 := ⟨fuel - 1, by omega⟩
    obtain ⟨b1, b2⟩ := h2 i (by omega)
    obtain ⟨q1, q2, q3, q4⟩ := tw1_d s hs (mb i) b1
    rw [g_X11_isTwice_5, if_neg (nI_ge (by omega) (by omega)), ix2, if_pos (ib_ok (by omega) (by omega)), nI_clamp (by omega), b2, nm_eq, nm_eq, show nI i + (1 : Int32) = nI (i + 1) from nI_1 _, q3, ih (i + 1) f _ (by omega) (by omega) q4, twS_s]
    cases hb : s.testBit (mb i) with
    | true => rw [if_pos (q2.mpr hb), if_pos rfl]; rfl
    | false => rw [if_neg (fun z => by rw [q2.mp z] at hb; cases hb), if_neg (by decide)]
theorem twS_no {mb : Nat → Nat} : ∀ (d k s : Nat), twS mb d k s = false → (∀ i, k ≤ i → i < k + d → s.testBit (mb i) = false) ∧ ∀ i j, k ≤ i → i < j → j < k + d → mb i ≠ mb j
  | 0, k, s, _ => ⟨fun i h1 h2 => by omega, fun i j h1 h2 h3 => by omega⟩
  | d + 1, k, s, h => by
    rw [twS_s] at h
    split at h
    · cases h
    · rename_i g
      obtain ⟨i1, i2⟩ := twS_no d (k + 1) _ h
      have i1' : ∀ i, k + 1 ≤ i → i < k + 1 + d → s.testBit (mb i) = false ∧ mb i ≠ mb k := fun i a b => by
        have q := i1 i a b
        rw [Nat.testBit_or, Nat.testBit_two_pow] at q
        simp only [Bool.or_eq_false_iff, decide_eq_false_iff_not] at q
        exact ⟨q.1, fun z => q.2 z.symm⟩
      refine ⟨fun i h1 h2 => ?_, fun i j h1 h2 h3 => ?_⟩
      · by_cases e : i = k
        · subst e; simpa using g
        · exact (i1' i (by omega) (by omega)).1
      · by_cases e : i = k
        · subst e; exact fun z => (i1' j (by omega) (by omega)).2 z.symm
        · exact i2 i j (by omega) h2 (by omega)
