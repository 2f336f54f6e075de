theorem loft_fin {M Mt : MM} {n : Nat} {kd ld br ht dr : Nat → Nat} {hd tr : Nat} (hL : LoI M n kd ld br ht dr hd tr) (hS : MsI M) (h3 : ShI M) (h4 : PsI M) {C : Nat → Int32} {N : Nat} (w2 : 16 ≤ N) (w3 : (N - 4) % 6 = 0) (f52 : N ≤ 52) (f2 : ∀ p, p < N → okP p (C p) = true)
    (lc : ∀ k i, k < 83 → ¬ ((k = 21 ∨ k = 22 ∨ k = 24 ∨ k = 25 ∨ k = 26) ∧ i < (N - 4) / 6) → ¬ (k = 23 ∧ (i = 3 ∨ i = 4 ∨ i = 5)) → ¬ (k = 20 ∧ i = 3) → k ≠ 19 → ¬ (k = 27 ∧ i = 1) → ¬ (k = 61 ∧ i = 3) → ¬ (k = 0 ∧ i = 11) → Mt k i = M k i)
    (hi : ∀ k i, 83 ≤ k → ¬ (k = 83 ∧ (i = 0 ∨ i = 5 ∨ i = 6 ∨ i = 7 ∨ i = 8 ∨ i = 21 ∨ i = 35 ∨ (14 ≤ i ∧ i ≤ 18))) → k ≠ 92 → k ≠ 95 → ¬ (87 ≤ k ∧ k ≤ 91 ∧ i < (N - 4) / 6) → Mt k i = M k i)
    (b1 : Mt 23 4 = C 1 - 48) (b2 : Mt 23 5 = C 2 - 48) (b3 : Mt 23 3 = C 3 - 48) (b4 : Mt 20 3 = nI ((N - 4) / 6)) (b5 : ∀ x, x < (N - 4) / 6 → Mt 21 x = nI (knN (C (5 + 6 * x))) ∧ Mt 24 x = C (6 + 6 * x) - 48 ∧ Mt 25 x = C (7 + 6 * x) - 48 ∧ Mt 26 x = C (8 + 6 * x) - 48 ∧ Mt 22 x = C (9 + 6 * x) - 48)
    (t1 : Mt 83 6 = C 1 - 48) (t2 : Mt 83 7 = C 2 - 48) (t3 : Mt 83 8 = C 3 - 48) (t4 : Mt 83 5 = nI ((N - 4) / 6)) (t5 : ∀ x, x < (N - 4) / 6 → Mt 87 x = nI (knN (C (5 + 6 * x))) ∧ Mt 88 x = C (6 + 6 * x) - 48 ∧ Mt 89 x = C (7 + 6 * x) - 48 ∧ Mt 90 x = C (8 + 6 * x) - 48 ∧ Mt 91 x = C (9 + 6 * x) - 48)
    (t6 : Mt 83 21 = nI 0) (t7 : Mt 95 0 = 0) (t8 : Mt 95 1 = 0) (t9 : Mt 83 35 = nI 0) (c1 : Mt 19 0 = 0) (c2 : Mt 19 1 = 0) (p1 : Mt 27 1 = nI 0) (p2 : Mt 61 3 = nI 0) (p3 : Mt 0 11 = Mt 83 0) : Inv Mt := by
  have okb : ∀ x q, x < (N - 4) / 6 → q < 6 → okP (4 + 6 * x + q) (C (4 + 6 * x + q)) = true := fun x q hx hq => f2 (4 + 6 * x + q) (by omega)
  have dg : ∀ x q, x < (N - 4) / 6 → 2 ≤ q → q < 5 → C (4 + q + 6 * x) - (48 : Int32) = nI (dgN (C (4 + q + 6 * x))) ∧ dgN (C (4 + q + 6 * x)) ≤ 9 := fun x q hx q1 q2 => by
    have := okb x q hx (by omega)
    rw [okP_b (by omega) (by omega), if_neg (by omega), if_neg (by omega), if_neg (by omega), show 4 + 6 * x + q = 4 + q + 6 * x by omega] at this
    obtain ⟨y1, y2, y3⟩ := dg_ok (by omega) (by omega) (by omega) this
    exact ⟨y1, by omega⟩
  have d2 : ∀ x, x < (N - 4) / 6 → C (6 + 6 * x) - (48 : Int32) = nI (dgN (C (6 + 6 * x))) ∧ dgN (C (6 + 6 * x)) ≤ 9 := fun x hx => dg x 2 hx (by omega) (by omega)
  have d3 : ∀ x, x < (N - 4) / 6 → C (7 + 6 * x) - (48 : Int32) = nI (dgN (C (7 + 6 * x))) ∧ dgN (C (7 + 6 * x)) ≤ 9 := fun x hx => dg x 3 hx (by omega) (by omega)
  have d4 : ∀ x, x < (N - 4) / 6 → C (8 + 6 * x) - (48 : Int32) = nI (dgN (C (8 + 6 * x))) ∧ dgN (C (8 + 6 * x)) ≤ 9 := fun x hx => dg x 4 hx (by omega) (by omega)
  have d5 : ∀ x, x < (N - 4) / 6 → C (9 + 6 * x) - (48 : Int32) = nI (dgN (C (9 + 6 * x))) ∧ dgN (C (9 + 6 * x)) ≤ 3 := fun x hx => by
    have := okb x 5 hx (by omega)
    rw [okP_b (by omega) (by omega), if_neg (by omega), if_neg (by omega), if_pos rfl, show 4 + 6 * x + 5 = 9 + 6 * x by omega] at this
    obtain ⟨y1, y2, y3⟩ := dg_ok (by omega) (by omega) (by omega) this
    exact ⟨y1, by omega⟩
  have dh : C 1 - (48 : Int32) = nI (dgN (C 1)) ∧ 1 ≤ dgN (C 1) ∧ dgN (C 1) ≤ 6 := dg_ok (a := 49) (b := 54) (by omega) (by omega) (by omega) (f2 1 (by omega))
  have dt : C 2 - (48 : Int32) = nI (dgN (C 2)) ∧ 1 ≤ dgN (C 2) ∧ dgN (C 2) ≤ 9 := dg_ok (a := 49) (b := 57) (by omega) (by omega) (by omega) (f2 2 (by omega))
  have kk : ∀ c : Int32, knN c ≤ 2 := fun c => by unfold knN; split; omega; split <;> omega
  have n8 : (N - 4) / 6 ≤ 8 := by omega
  have n2 : 2 ≤ (N - 4) / 6 := by omega
  clear okb dg f2 w2 w3 f52
  generalize (N - 4) / 6 = nn at *
  have hLo : LoI Mt nn (fun x => if x < nn then knN (C (5 + 6 * x)) else kd x) (fun x => if x < nn then dgN (C (6 + 6 * x)) else ld x) (fun x => if x < nn then dgN (C (7 + 6 * x)) else br x) (fun x => if x < nn then dgN (C (8 + 6 * x)) else ht x) (fun x => if x < nn then dgN (C (9 + 6 * x)) else dr x) (dgN (C 1)) (dgN (C 2)) := by
    have lc' : ∀ k x, (k = 21 ∨ k = 22 ∨ k = 24 ∨ k = 25 ∨ k = 26) → ¬ x < nn → Mt k x = M k x := fun k x hk hx => lc k x (by omega) (by omega) (by omega) (by omega) (by omega) (by omega) (by omega) (by omega)
    have hi' : ∀ k x, 87 ≤ k → k ≤ 91 → ¬ x < nn → Mt k x = M k x := fun k x hk hk2 hx => hi k x (by omega) (by omega) (by omega) (by omega) (by omega)
    refine ⟨⟨b4, fun x hx => ?_, fun x hx => ?_, fun x hx => ?_, fun x hx => ?_, fun x hx => ?_, b1.trans dh.1, b2.trans dt.1⟩, ⟨t4, fun x hx => ?_, fun x hx => ?_, fun x hx => ?_, fun x hx => ?_, fun x hx => ?_, t1.trans dh.1, t2.trans dt.1⟩, ⟨n8, fun x hx => ?_, dh.2.2, dt.2.2⟩, Or.inr ⟨n2, dh.2.1, dt.2.1⟩⟩
    · try dsimp only
      by_cases e : x < nn
      · rw [if_pos e]; exact (b5 x e).1
      · rw [if_neg e, lc' _ _ (by omega) e]; exact hL.kC hx
    · try dsimp only
      by_cases e : x < nn
      · rw [if_pos e]; exact (b5 x e).2.2.2.2.trans (d5 x e).1
      · rw [if_neg e, lc' _ _ (by omega) e]; exact hL.dC hx
    · try dsimp only
      by_cases e : x < nn
      · rw [if_pos e]; exact (b5 x e).2.1.trans (d2 x e).1
      · rw [if_neg e, lc' _ _ (by omega) e]; exact hL.lC hx
    · try dsimp only
      by_cases e : x < nn
      · rw [if_pos e]; exact (b5 x e).2.2.1.trans (d3 x e).1
      · rw [if_neg e, lc' _ _ (by omega) e]; exact hL.bC hx
    · try dsimp only
      by_cases e : x < nn
      · rw [if_pos e]; exact (b5 x e).2.2.2.1.trans (d4 x e).1
      · rw [if_neg e, lc' _ _ (by omega) e]; exact hL.hC hx
    · try dsimp only
      by_cases e : x < nn
      · rw [if_pos e]; exact (t5 x e).1
      · rw [if_neg e, hi' _ _ (by omega) (by omega) e]; exact hL.kM hx
    · try dsimp only
      by_cases e : x < nn
      · rw [if_pos e]; exact (t5 x e).2.2.2.2.trans (d5 x e).1
      · rw [if_neg e, hi' _ _ (by omega) (by omega) e]; exact hL.dM hx
    · try dsimp only
      by_cases e : x < nn
      · rw [if_pos e]; exact (t5 x e).2.1.trans (d2 x e).1
      · rw [if_neg e, hi' _ _ (by omega) (by omega) e]; exact hL.lM hx
    · try dsimp only
      by_cases e : x < nn
      · rw [if_pos e]; exact (t5 x e).2.2.1.trans (d3 x e).1
      · rw [if_neg e, hi' _ _ (by omega) (by omega) e]; exact hL.bM hx
    · try dsimp only
      by_cases e : x < nn
      · rw [if_pos e]; exact (t5 x e).2.2.2.1.trans (d4 x e).1
      · rw [if_neg e, hi' _ _ (by omega) (by omega) e]; exact hL.hM hx
    · try dsimp only
      obtain ⟨o1, o2, o3, o4, o5⟩ := hL.rg hx
      by_cases e : x < nn
      · simp only [if_pos e]
        exact ⟨kk _, (d2 x e).2, (d3 x e).2, (d4 x e).2, (d5 x e).2⟩
      · simp only [if_neg e]
        exact ⟨o1, o2, o3, o4, o5⟩
  refine ⟨nn, _, _, _, _, _, _, _, hLo, ⟨b3.trans t3.symm, p3, ?_⟩, ?_, ?_, ?_, ?_⟩
  · rw [lc _ _ (by omega) (by omega) (by omega) (by omega) (by omega) (by omega) (by omega) (by omega), hi _ _ (by omega) (by omega) (by omega) (by omega) (by omega)]
    exact hS.2.2
  · refine h3.cong (fun k i r => ?_)
    unfold relSh at r
    by_cases hk : k < 83
    · exact lc _ _ (by omega) (by omega) (by omega) (by omega) (by omega) (by omega) (by omega) (by omega)
    · exact hi _ _ (by omega) (by omega) (by omega) (by omega) (by omega)
  · obtain ⟨p, q, y1, y2, y3, y4, y5, y6⟩ := h4
    refine ⟨0, q, by omega, y2, p1, ?_, t6, fun i hi => by omega⟩
    rw [lc _ _ (by omega) (by omega) (by omega) (by omega) (by omega) (by omega) (by omega) (by omega)]; exact y4
  · intro i hi2
    have z0 : Mt 19 i = 0 := by
      rcases (show i = 0 ∨ i = 1 by omega) with rfl | rfl
      · exact c1
      · exact c2
    have z1 : Mt 95 i = 0 := by
      rcases (show i = 0 ∨ i = 1 by omega) with rfl | rfl
      · exact t7
      · exact t8
    refine ⟨Or.inl z0, by rw [z0, z1], fun z => ?_⟩
    rw [z0] at z
    exact absurd z (by decide)
  · exact ⟨0, by omega, p2, t9, fun i hi => by omega⟩
theorem s_loft : St_loft Inv := by
  intro M h a1 a2 a3 a4
  cases hin : inR a1 0 3 with
  | false => exact ⟨-1, up2 M 0 11 0, up2 (up2 M 0 11 0) 83 0 0, by unfold f_X10_loft; rw [nm_eq, q_X10_isSheet, hin, br_s, if_pos (show b2i false = 0 from rfl)], by unfold f_X11_loft; rw [nm_eq, q_X11_isSheet, hin, br_s, if_pos (show b2i false = 0 from rfl)], h.flt1 0⟩
  | true =>
    obtain ⟨j, hj, rfl⟩ := inR_yes0 (by omega) hin
    cases h2 : inR a2 0 2 with
    | false => exact ⟨-2, up2 M 0 11 0, up2 (up2 M 0 11 0) 83 0 0, by unfold f_X10_loft; rw [nm_eq, q_X10_isSheet, hin, br_s, if_neg (by decide), q_X10_isLane, h2, br_s, if_pos (show b2i false = 0 from rfl)], by unfold f_X11_loft; rw [nm_eq, q_X11_isSheet, hin, br_s, if_neg (by decide), q_X11_isSort, h2, br_s, if_pos (show b2i false = 0 from rfl)], h.flt1 0⟩
    | true =>
      obtain ⟨n, kd, ld, br, ht, dr, hd, tr, hL, hS, h3, h4, h5, h6⟩ := id h
      obtain ⟨s1, s2, s3, s4, L, s5, s6, s7⟩ := h3 j (by omega)
      have hl : ¬ M (2 + 2 * j) 1 = 0 → ¬ M (2 + 2 * j) 2 = -9 := fun q => isD2_ne (s3 (by rcases s1 with z | z; exact absurd z q; exact z))
      have eC : ∀ X : Option (Int32 × MM), (if ib (nI j) 4 = true then X else none) = X := fun X => if_pos (ib_ok (by omega) (by omega))
      generalize eMa : up2 M 0 11 0 = Ma
      have u : ∀ k i, ¬ (k = 0 ∧ i = 11) → Ma k i = M k i := fun k i r => by rw [← eMa, up2_of r]
      have ct := c_fault (M := Ma) (k0 := 2 + 2 * j) (L := L) (by rw [u _ _ (by omega)]; exact s6) a2 a3 a4
      rw [u _ _ (by omega), u _ _ (by omega)] at ct
      have ma : ∀ M1 : MM, (∀ k i, k = 84 ∨ k = 85 → M1 k i = M k i) → f_X11_against M1 (nI j) a2 a3 a4 = some (foS (M (2 + 2 * j) 1) (M (2 + 2 * j) 2) L a2 a3 a4) := fun M1 q => m_against (by omega) (by rw [q 85 j (by omega), s4]; exact s6) (by rw [q 84 j (by omega)]; exact s2) hl a2 a3 a4
      have E10 : f_X10_loft M (nI j) a2 a3 a4 = (if foS (M (2 + 2 * j) 1) (M (2 + 2 * j) 2) L a2 a3 a4 = 0 then (CFlyFloorLaw_law_r8989_f8e51d.br (f_X9_firstFault Ma (2 + 2 * j + 1) a3 a4) fun r9 => (if r9 = (-9 : Int32) then (CFlyFloorLaw_law_r8989_f8e51d.br (f_X1_build Ma (2 + 2 * j + 1) a3 a4) fun M12 => (CFlyFloorLaw_law_r8989_f8e51d.br (f_X3_forget M12) fun M15 => (nm (up2 M15 61 3 (0 : Int32)) fun M17 => g_X10_loft_114 FU M17 (0 : Int32)))) else (some (((-100 : Int32) - r9), Ma)))) else some ((-10 : Int32) - foS (M (2 + 2 * j) 1) (M (2 + 2 * j) 2) L a2 a3 a4, up2 Ma 0 11 (foS (M (2 + 2 * j) 1) (M (2 + 2 * j) 2) L a2 a3 a4))) := by
        unfold f_X10_loft
        rw [nm_eq, eMa, q_X10_isSheet, hin, br_s, if_neg (by decide), q_X10_isLane, h2, br_s, if_neg (by decide), eC, nI_clamp (by omega), ct, br_s, fl10, bi_s]
      have E11 : ∀ M1 : MM, (∀ k i, k = 84 ∨ k = 85 → M1 k i = M k i) → f_X11_loft M1 (nI j) a2 a3 a4 = (if foS (M (2 + 2 * j) 1) (M (2 + 2 * j) 2) L a2 a3 a4 = 0 then (bi (f_X11_readLoft (up2 (up2 M1 83 0 0) 83 14 (((60 : Int32) * nI j) + a3)) ((((60 : Int32) * nI j) + a3) + a4)) fun r10 M11 => (if r10 = 0 then (some (((-100 : Int32) - ((M11 83 14) - (((60 : Int32) * nI j) + a3))), M11)) else (CFlyFloorLaw_law_r8989_f8e51d.br (f_X11_takeLoft M11) fun M14 => (some ((M14 83 5), M14))))) else some ((-10 : Int32) - foS (M (2 + 2 * j) 1) (M (2 + 2 * j) 2) L a2 a3 a4, up2 (up2 M1 83 0 0) 83 0 (foS (M (2 + 2 * j) 1) (M (2 + 2 * j) 2) L a2 a3 a4))) := fun M1 q => by
        unfold f_X11_loft
        rw [nm_eq, q_X11_isSheet, hin, br_s, if_neg (by decide), q_X11_isSort, h2, br_s, if_neg (by decide), ma _ (fun k i z => by rw [up2_of (by omega), q k i z]), br_s, fl11, bi_s, nm_eq, nm_eq]
      by_cases hf : foS (M (2 + 2 * j) 1) (M (2 + 2 * j) 2) L a2 a3 a4 = 0
      · obtain ⟨i0, N, rfl, rfl, hiN⟩ := foS0g s5 hf
        rw [if_pos hf] at E10
        have e60 : ((60 : Int32) * nI j) + nI i0 = nI (60 * j + i0) := by rw [show (60 : Int32) * nI j = nI (60 * j) from pk_mul 60 j, nI_add]
        obtain ⟨fp, hF⟩ := FP_ex (fun p => M (3 + 2 * j) (i0 + p)) N
        obtain ⟨f1, f2, f3⟩ := id hF
        have hCc : ∀ p, p < N → Ma (2 + 2 * j + 1) (i0 + p) = M (3 + 2 * j) (i0 + p) := fun p hp => by rw [u _ _ (by omega), show 2 + 2 * j + 1 = 3 + 2 * j by omega]
        have eff : f_X9_firstFault Ma (2 + 2 * j + 1) (nI i0) (nI N) = some (if WH N fp then -9 else nI fp) := c_ffL (M := Ma) (k0 := 2 + 2 * j + 1) (by omega) hCc hF fp 0 FU (by omega) (by have := FU_eq; omega)
        rw [eff, br_s] at E10
        have rd : ∀ M1 : MM, (∀ k i, 83 ≤ k → M1 k i = M k i) → ∃ M' : MM, f_X11_readLoft (up2 (up2 M1 83 0 0) 83 14 (nI (60 * j + i0))) (nI (60 * j + i0 + N)) = some (b2i (decide (WH N fp)), M') ∧ (∀ k i, ¬ (k = 83 ∧ 14 ≤ i ∧ i ≤ 18) → k ≠ 92 → M' k i = up2 M1 83 0 0 k i) ∧ (WH N fp → M' 83 15 = M (3 + 2 * j) (i0 + 1) - 48 ∧ M' 83 16 = M (3 + 2 * j) (i0 + 2) - 48 ∧ M' 83 17 = M (3 + 2 * j) (i0 + 3) - 48 ∧ M' 83 18 = nI ((N - 4) / 6) ∧ ∀ b, b < (N - 4) / 6 → M' 92 (5 * b) = nI (knN (M (3 + 2 * j) (i0 + (5 + 6 * b)))) ∧ ∀ x, 1 ≤ x → x < 5 → M' 92 (5 * b + x) = M (3 + 2 * j) (i0 + (5 + 6 * b + x)) - 48) ∧ (¬ WH N fp → M' 83 14 = nI (60 * j + i0 + fp)) := fun M1 q => by
          obtain ⟨M', i1, i2, i3, i4⟩ := m_read1 (M := up2 (up2 M1 83 0 0) 83 14 (nI (60 * j + i0))) (o := 60 * j + i0) hF (by omega) (by omega) (up2_at _ _ _ _) (fun p hp => by rw [up2_of (by omega), up2_of (by omega), q _ _ (by omega), show 60 * j + i0 + p = 60 * j + (i0 + p) by omega]; exact (s7 (i0 + p) (by omega)).symm)
          exact ⟨M', i1, fun k i r1 r2 => by rw [i2 k i r1 r2, up2_of (by omega)], i3, i4⟩
        by_cases hw : WH N fp
        · obtain ⟨w1, w2, w3⟩ := id hw
          have f52 : N ≤ 52 := by
            by_cases e : N ≤ 52
            · exact e
            · have := f2 52 (by omega)
              unfold okP at this
              rw [if_neg (by omega)] at this
              cases this
          rw [if_pos hw, if_pos rfl] at E10
          obtain ⟨Mb, b0, b1, b2, b3, b4, b5, b6⟩ := c_build (M := Ma) (k1 := 2 + 2 * j + 1) (by omega) (by omega) w2 f52 w3 (C := fun p => M (3 + 2 * j) (i0 + p)) hCc
          obtain ⟨Mc, c0, c1, c2, c3⟩ := c_keptL (up2 (up2 Mb 27 1 0) 61 3 0)
          have E10' : f_X10_loft M (nI j) a2 (nI i0) (nI N) = some (nI ((N - 4) / 6), Mc) := by
            rw [E10, b0, br_s]
            unfold f_X3_forget
            rw [nm_eq, br_s, nm_eq, c0, up2_of (by omega), up2_of (by omega), b4]
          have UC : ∀ k i, ¬ ((k = 21 ∨ k = 22 ∨ k = 24 ∨ k = 25 ∨ k = 26) ∧ i < (N - 4) / 6) → ¬ (k = 23 ∧ (i = 3 ∨ i = 4 ∨ i = 5)) → ¬ (k = 20 ∧ i = 3) → k ≠ 19 → ¬ (k = 27 ∧ i = 1) → ¬ (k = 61 ∧ i = 3) → Mc k i = Ma k i := fun k i r1 r2 r3 r4 r5 r6 => by rw [c3 k i r4, up2_of r6, up2_of r5, b6 k i r1 r2 r3]
          have VC : ∀ k i, k ≠ 19 → k ≠ 27 → k ≠ 61 → Mc k i = Mb k i := fun k i r1 r2 r3 => by rw [c3 k i r1, up2_of (by omega), up2_of (by omega)]
          obtain ⟨Mr, r0, r1, r2, -⟩ := rd Mc (fun k i hk => by rw [UC k i (by omega) (by omega) (by omega) (by omega) (by omega) (by omega), u k i (by omega)])
          obtain ⟨q1, q2, q3, q4, q5⟩ := r2 hw
          obtain ⟨Mt, t0, t1, t2, t3, t4, t5, ⟨t6, t7, t8, t9⟩, t10⟩ := m_takeLo (M := Mr) (n := (N - 4) / 6) (by omega) q4
          have E11' : f_X11_loft Mc (nI j) a2 (nI i0) (nI N) = some (nI ((N - 4) / 6), Mt) := by
            rw [E11 Mc (fun k i hk => by rw [UC k i (by omega) (by omega) (by omega) (by omega) (by omega) (by omega), u k i (by omega)]), if_pos hf, e60, nI_add, r0, bi_s, decide_eq_true hw, if_neg (by decide), t0, br_s, t4]
          refine ⟨_, Mc, Mt, E10', E11', ?_⟩
          have lo : ∀ k i, k < 83 → Mt k i = Mc k i := fun k i hk => by rw [t10 k i (by omega) (by omega) (by omega), r1 k i (by omega) (by omega), up2_of (by omega)]
          have hi : ∀ k i, 83 ≤ k → ¬ (k = 83 ∧ (i = 0 ∨ i = 5 ∨ i = 6 ∨ i = 7 ∨ i = 8 ∨ i = 21 ∨ i = 35 ∨ (14 ≤ i ∧ i ≤ 18))) → k ≠ 92 → k ≠ 95 → ¬ (87 ≤ k ∧ k ≤ 91 ∧ i < (N - 4) / 6) → Mt k i = M k i := fun k i hk x1 x2 x3 x4 => by rw [t10 k i x4 (by omega) x3, r1 k i (by omega) x2, up2_of (by omega), UC k i (by omega) (by omega) (by omega) (by omega) (by omega) (by omega), u k i (by omega)]
          have lc : ∀ k i, k < 83 → ¬ ((k = 21 ∨ k = 22 ∨ k = 24 ∨ k = 25 ∨ k = 26) ∧ i < (N - 4) / 6) → ¬ (k = 23 ∧ (i = 3 ∨ i = 4 ∨ i = 5)) → ¬ (k = 20 ∧ i = 3) → k ≠ 19 → ¬ (k = 27 ∧ i = 1) → ¬ (k = 61 ∧ i = 3) → ¬ (k = 0 ∧ i = 11) → Mt k i = M k i := fun k i hk x1 x2 x3 x4 x5 x6 x7 => by rw [lo k i hk, UC k i x1 x2 x3 x4 x5 x6, u k i x7]
          refine loft_fin (C := fun p => M (3 + 2 * j) (i0 + p)) hL hS h3 h4 w2 w3 f52 (fun p hp => f2 p (by omega)) lc hi ?_ ?_ ?_ ?_ (fun x hx => ?_) ?_ ?_ ?_ t4 (fun x hx => ?_) t6 t7 t8 t9 ?_ ?_ ?_ ?_ ?_
          · rw [lo _ _ (by omega), VC _ _ (by omega) (by omega) (by omega)]; exact b1
          · rw [lo _ _ (by omega), VC _ _ (by omega) (by omega) (by omega)]; exact b2
          · rw [lo _ _ (by omega), VC _ _ (by omega) (by omega) (by omega)]; exact b3
          · rw [lo _ _ (by omega), VC _ _ (by omega) (by omega) (by omega)]; exact b4
          · rw [lo _ _ (by omega), lo _ _ (by omega), lo _ _ (by omega), lo _ _ (by omega), lo _ _ (by omega), VC _ _ (by omega) (by omega) (by omega), VC _ _ (by omega) (by omega) (by omega), VC _ _ (by omega) (by omega) (by omega), VC _ _ (by omega) (by omega) (by omega), VC _ _ (by omega) (by omega) (by omega)]; exact b5 x hx
          · rw [t1]; exact q1
          · rw [t2]; exact q2
          · rw [t3]; exact q3
          · obtain ⟨y1, y2, y3, y4, y5⟩ := t5 x hx
            obtain ⟨z1, z2⟩ := q5 x hx
            rw [y1, y2, y3, y4, y5]
            refine ⟨z1, ?_, ?_, ?_, ?_⟩
            · rw [z2 1 (by omega) (by omega), show 5 + 6 * x + 1 = 6 + 6 * x by omega]
            · rw [z2 2 (by omega) (by omega), show 5 + 6 * x + 2 = 7 + 6 * x by omega]
            · rw [z2 3 (by omega) (by omega), show 5 + 6 * x + 3 = 8 + 6 * x by omega]
            · rw [z2 4 (by omega) (by omega), show 5 + 6 * x + 4 = 9 + 6 * x by omega]
          · rw [lo _ _ (by omega)]; exact c1
          · rw [lo _ _ (by omega)]; exact c2
          · rw [lo _ _ (by omega), c3 _ _ (by omega), up2_of (by omega), up2_at]; rfl
          · rw [lo _ _ (by omega), c3 _ _ (by omega), up2_at]; rfl
          · rw [lo _ _ (by omega), UC _ _ (by omega) (by omega) (by omega) (by omega) (by omega) (by omega), ← eMa, up2_at, t10 _ _ (by omega) (by omega) (by omega), r1 _ _ (by omega) (by omega), up2_at]
        · rw [if_neg hw, if_neg (n9b_d fp (by omega))] at E10
          obtain ⟨Mr, r0, r1, -, r3⟩ := rd Ma (fun k i hk => u k i (by omega))
          refine ⟨-100 - nI fp, Ma, Mr, E10, ?_, ?_⟩
          · rw [E11 Ma (fun k i hk => u k i (by omega)), if_pos hf, e60, nI_add, r0, bi_s, decide_eq_false hw, if_pos (show b2i false = 0 from rfl), r3 hw, pk_sub (by omega), show 60 * j + i0 + fp - (60 * j + i0) = fp by omega]
          · refine Inv.scr (M := up2 Ma 83 0 0) ?_ (fun k i r => ?_)
            · rw [← eMa]; exact h.flt1 0
            · unfold scrP at r
              exact r1 k i (by omega) (by omega)
      · rw [if_neg hf] at E10
        have E11f := E11
        generalize foS (M (2 + 2 * j) 1) (M (2 + 2 * j) 2) L a2 a3 a4 = f at E10 E11f hf
        refine ⟨-10 - f, up2 Ma 0 11 f, up2 (up2 (up2 Ma 0 11 f) 83 0 0) 83 0 f, E10, ?_, ?_⟩
        · rw [E11f _ (fun k i q => by rw [up2_of (by omega), u k i (by omega)]), if_neg hf]
        · rw [← eMa]; exact h.flt 0 0 _ _ rfl
