theorem isD_tn {m : Nat} {x : Int32} (hm : m < 2 ^ 31) (h : isD m x) : x = nI x.toNatClampNeg ∧ x.toNatClampNeg ≤ m := by
  obtain ⟨a, h1, rfl⟩ := h
  rw [nI_clamp (by omega)]
  exact ⟨rfl, h1⟩
/-- the reference reads a rig back out of a row -/
theorem rb_loop {k1 n1 o : Nat} (hk : k1 ≠ 83 ∧ k1 ≠ 88 ∧ k1 ≠ 89 ∧ k1 ≠ 90) (ho : o + 24 < n1) (hn : n1 ≤ 1000) : ∀ (d i fuel : Nat) (M : MM), i + d = 8 → d < fuel → ∃ M' : MM, g_X11_readBack_2 k1 n1 fuel M (nI o) (nI i) = some M' ∧ (∀ j, i ≤ j → j < 8 → M' 90 j = M k1 (o + j) ∧ M' 88 j = M k1 (o + 8 + j) ∧ M' 89 j = M k1 (o + 16 + j)) ∧ M' 83 8 = M k1 (o + 24) ∧ (∀ k j, j < i → M' k j = M k j ∨ (k = 83 ∧ j = 8)) ∧ ∀ k j, ¬ (88 ≤ k ∧ k ≤ 90) → ¬ (k = 83 ∧ j = 8) → M' k j = M k j := by
  obtain ⟨k83, k88, k89, k90⟩ := hk
  intro d
  induction d with
  | zero =>
    intro i fuel M h1 h2
    obtain ⟨f, rfl⟩ : ∃ f, fuel = f + 1 := ⟨fuel - 1, by omega⟩
    obtain rfl : i = 8 := by omega
    rw [g_X11_readBack_2, if_pos (show (8 : Int32) ≤ nI 8 by decide)]
    have e : nI o + (24 : Int32) = nI (o + 24) := nI_add o 24
    rw [e, if_pos (ib_ok ho (by omega)), nI_clamp (by omega)]
    simp only [nm_eq]
    exact ⟨_, rfl, fun j g1 g2 => by omega, up2_at _ _ _ _, fun k j _ => by by_cases q : k = 83 ∧ j = 8; exact Or.inr q; exact Or.inl (up2_of q), fun k j _ g => up2_of g⟩
  | succ d ih =>
    intro i fuel M h1 h2
    obtain ⟨f, rfl⟩ : ∃ f, fuel = f + 1 := ⟨fuel - 1, by omega⟩
    rw [g_X11_readBack_2, if_neg (show ¬ (8 : Int32) ≤ nI i from nI_ge (b := 8) (by omega) (by omega))]
    have e0 : nI o + nI i = nI (o + i) := nI_add o i
    have e1 : nI o + (8 : Int32) + nI i = nI (o + 8 + i) := by rw [show nI o + (8 : Int32) = nI (o + 8) from nI_add o 8, nI_add]
    have e2 : nI o + (16 : Int32) + nI i = nI (o + 16 + i) := by rw [show nI o + (16 : Int32) = nI (o + 16) from nI_add o 16, nI_add]
    have e3 : nI i + (1 : Int32) = nI (i + 1) := nI_1 i
    have b0 : ib (nI i) 8 = true := ib_ok (by omega) (by omega)
    have b1 : ib (nI (o + i)) n1 = true := ib_ok (by omega) (by omega)
    have b2 : ib (nI (o + 8 + i)) n1 = true := ib_ok (by omega) (by omega)
    have b3 : ib (nI (o + 16 + i)) n1 = true := ib_ok (by omega) (by omega)
    simp only [e0, e1, e2, e3, if_pos b0, if_pos b1, if_pos b2, if_pos b3, nm_eq, nI_clamp (show i < 2 ^ 31 by omega), nI_clamp (show o + i < 2 ^ 31 by omega), nI_clamp (show o + 8 + i < 2 ^ 31 by omega), nI_clamp (show o + 16 + i < 2 ^ 31 by omega)]
    generalize eM : up2 (up2 (up2 M 90 i (M k1 (o + i))) 88 i (up2 M 90 i (M k1 (o + i)) k1 (o + 8 + i))) 89 i (up2 (up2 M 90 i (M k1 (o + i))) 88 i (up2 M 90 i (M k1 (o + i)) k1 (o + 8 + i)) k1 (o + 16 + i)) = Mx
    have ux : ∀ k j, ¬ (k = 90 ∧ j = i) → ¬ (k = 88 ∧ j = i) → ¬ (k = 89 ∧ j = i) → Mx k j = M k j := fun k j r1 r2 r3 => by rw [← eM, up2_of r3, up2_of r2, up2_of r1]
    obtain ⟨M', g0, g1, g2, g3, g4⟩ := ih (i + 1) f Mx (by omega) (by omega)
    refine ⟨M', g0, fun j j1 j2 => ?_, ?_, fun k j hj => ?_, fun k j r1 r2 => ?_⟩
    · by_cases hj : j = i
      · subst hj
        have a0 : M' 90 j = Mx 90 j := by rcases g3 90 j (by omega) with z | z; exact z; omega
        have a1 : M' 88 j = Mx 88 j := by rcases g3 88 j (by omega) with z | z; exact z; omega
        have a2 : M' 89 j = Mx 89 j := by rcases g3 89 j (by omega) with z | z; exact z; omega
        rw [a0, a1, a2, ← eM]
        refine ⟨?_, ?_, ?_⟩
        · rw [up2_of (by omega), up2_of (by omega), up2_at]
        · rw [up2_of (by omega), up2_at, up2_of (by omega)]
        · rw [up2_at, up2_of (by omega), up2_of (by omega)]
      · obtain ⟨x1, x2, x3⟩ := g1 j (by omega) j2
        rw [x1, x2, x3, ux k1 _ (by omega) (by omega) (by omega), ux k1 _ (by omega) (by omega) (by omega), ux k1 _ (by omega) (by omega) (by omega)]
        exact ⟨rfl, rfl, rfl⟩
    · rw [g2, ux k1 _ (by omega) (by omega) (by omega)]
    · rcases g3 k j (by omega) with z | z
      · exact Or.inl (by rw [z, ux k j (by omega) (by omega) (by omega)])
      · exact Or.inr z
    · rw [g4 k j r1 r2, ux k j (by omega) (by omega) (by omega)]
theorem m_read (M : MM) {k1 n1 o : Nat} (hk : k1 ≠ 83 ∧ k1 ≠ 88 ∧ k1 ≠ 89 ∧ k1 ≠ 90) (ho : o + 24 < n1) (hn : n1 ≤ 1000) : ∃ M' : MM, f_X11_readBack M k1 n1 (nI o) = some M' ∧ (∀ j, j < 8 → M' 90 j = M k1 (o + j) ∧ M' 88 j = M k1 (o + 8 + j) ∧ M' 89 j = M k1 (o + 16 + j)) ∧ M' 83 8 = M k1 (o + 24) ∧ ∀ k j, ¬ (88 ≤ k ∧ k ≤ 90) → ¬ (k = 83 ∧ j = 8) → M' k j = M k j := by
  obtain ⟨M', g0, g1, g2, g3, g4⟩ := rb_loop hk ho hn 8 0 FU M (by omega) (by decide)
  exact ⟨M', g0, fun j hj => g1 j (by omega) hj, g2, g4⟩
theorem s_undo : St_undo Inv := by
  intro M h
  obtain ⟨n, kd, ld, br, ht, dr, hd, tr, hL, hS, h3, ⟨p, q, hp, hq, p3, p4, p5, old⟩, h5, h6⟩ := id h
  by_cases hp0 : p = 0
  · subst hp0
    exact ⟨-3, M, M, by simp [f_X10_undo, p3, nI_0], by simp [f_X11_undo, p5, nI_0], h⟩
  · have z : ¬ nI p = 0 := nI_n0 (by omega) (by omega)
    have ep : nI p - (1 : Int32) = nI (p - 1) := pk_sub (b := 1) (by omega)
    -- the class
    obtain ⟨M5, e5, t1, t2, t3, t4⟩ := tm (up2 (up2 M 27 2 (nI ((q + 7) % 8))) 27 1 (nI (p - 1))) (k0 := 23) (k1 := 29 + 4 * ((q + 7) % 8)) (by omega)
    have e1 : f_X10_undo M = some (nI (p - 1), M5) := by
      unfold f_X10_undo
      rw [p3, if_neg z]
      unfold f_X3_bringBack
      simp only [nm_eq, p4, rinb_d q hq, up2_of (show ¬ (27 = 27 ∧ 1 = 2) by omega), p3, ep, up2_of (show ¬ (27 = 27 ∧ 2 = 1) by omega), up2_at, if_pos (ib_ok (show (q + 7) % 8 < 8 by omega) (by omega)), nI_clamp (show (q + 7) % 8 < 2 ^ 31 by omega), e5, br_s]
      rw [t3 27 1 (by omega), up2_at]
    have u1 : ∀ k j, ¬ (k = 27 ∧ (j = 1 ∨ j = 2)) → ¬ (24 ≤ k ∧ k ≤ 26) → ¬ (k = 23 ∧ j = 3) → M5 k j = M k j := by
      intro k j r1 r2 r3
      by_cases hk : k = 23
      · subst hk
        rw [t4 j (by omega), up2_of (by omega), up2_of (by omega)]
      · rw [t3 k j (by omega), up2_of (by omega), up2_of (by omega)]
    -- the reference
    obtain ⟨Mm, em, m1, m2, m3⟩ := m_read (up2 M5 83 21 (nI (p - 1))) (k1 := 94) (n1 := 200) (o := 25 * (p - 1)) (by omega) (by omega) (by omega)
    have e2 : f_X11_undo M5 = some (nI (p - 1), Mm) := by
      have y : M5 83 21 = nI p := by rw [u1 83 21 (by omega) (by omega) (by omega)]; exact p5
      unfold f_X11_undo
      rw [y, if_neg z]
      simp only [nm_eq, ep, up2_at, show (25 : Int32) * nI (p - 1) = nI (25 * (p - 1)) from pk_mul 25 (p - 1), em, br_s]
      rw [m3 83 21 (by omega) (by omega), up2_at]
    refine ⟨_, M5, Mm, e1, e2, ?_⟩
    have v1 : ∀ k j, ¬ (88 ≤ k ∧ k ≤ 90) → ¬ (k = 83 ∧ (j = 8 ∨ j = 21)) → Mm k j = M5 k j := fun k j r1 r2 => by rw [m3 k j r1 (by omega), up2_of (by omega)]
    have vv : ∀ k j, ¬ (k = 27 ∧ (j = 1 ∨ j = 2)) → ¬ (24 ≤ k ∧ k ≤ 26) → ¬ (k = 23 ∧ j = 3) → ¬ (88 ≤ k ∧ k ≤ 90) → ¬ (k = 83 ∧ (j = 8 ∨ j = 21)) → Mm k j = M k j := fun k j r1 r2 r3 r4 r5 => by rw [v1 k j r4 r5, u1 k j r1 r2 r3]
    have hlast := old (p - 1) (by omega)
    rw [show (q + 8 - p + (p - 1)) % 8 = (q + 7) % 8 by omega] at hlast
    obtain ⟨o1, o2⟩ := hlast
    have hq7 : (q + 7) % 8 < 8 := by omega
    have g24 : ∀ j, j < 8 → Mm 24 j = M (29 + 4 * ((q + 7) % 8) + 1) j ∧ Mm 25 j = M (29 + 4 * ((q + 7) % 8) + 2) j ∧ Mm 26 j = M (29 + 4 * ((q + 7) % 8) + 3) j := by
      intro j hj
      obtain ⟨x1, x2, x3⟩ := t1 j hj
      rw [v1 24 j (by omega) (by omega), v1 25 j (by omega) (by omega), v1 26 j (by omega) (by omega)]
      rw [up2_of (by omega), up2_of (by omega)] at x1 x2 x3
      exact ⟨x1, x2, x3⟩
    have g88 : ∀ j, j < 8 → Mm 90 j = M 94 (25 * (p - 1) + j) ∧ Mm 88 j = M 94 (25 * (p - 1) + 8 + j) ∧ Mm 89 j = M 94 (25 * (p - 1) + 16 + j) := by
      intro j hj
      obtain ⟨x1, x2, x3⟩ := m1 j hj
      rw [up2_of (by omega), u1 94 _ (by omega) (by omega) (by omega)] at x1 x2 x3
      exact ⟨x1, x2, x3⟩
    refine ⟨n, kd, fun j => (M (29 + 4 * ((q + 7) % 8) + 1) j).toNatClampNeg, fun j => (M (29 + 4 * ((q + 7) % 8) + 2) j).toNatClampNeg, fun j => (M (29 + 4 * ((q + 7) % 8) + 3) j).toNatClampNeg, dr, hd, tr, hL.chg (fun k j r => vv k j (by omega) (by omega) (by omega) (by omega) (by omega)) (fun j hj => ?_) (fun j hj => ?_) (fun j hj => ?_) (hL.e4 (vv _ _ (by omega) (by omega) (by omega) (by omega) (by omega)) (vv _ _ (by omega) (by omega) (by omega) (by omega) (by omega))) (hL.e5 (vv _ _ (by omega) (by omega) (by omega) (by omega) (by omega)) (vv _ _ (by omega) (by omega) (by omega) (by omega) (by omega))), ⟨?_, ?_, ?_⟩, h3.cong (fun k j r => vv k j (by unfold relSh at r; omega) (by unfold relSh at r; omega) (by unfold relSh at r; omega) (by unfold relSh at r; omega) (by unfold relSh at r; omega)), ?_, h5.cong (fun k j r => vv k j (by unfold relIm at r; omega) (by unfold relIm at r; omega) (by unfold relIm at r; omega) (by unfold relIm at r; omega) (by unfold relIm at r; omega)), h6.cong (fun k j r => vv k j (by unfold relRd at r; omega) (by unfold relRd at r; omega) (by unfold relRd at r; omega) (by unfold relRd at r; omega) (by unfold relRd at r; omega))⟩
    · obtain ⟨⟨y1, y2⟩, -, -⟩ := o1 j hj
      obtain ⟨d1, d2⟩ := isD_tn (by omega) y2
      rw [(g24 j hj).1, (g88 j hj).2.1, ← y1]
      exact ⟨d1, d1, d2⟩
    · obtain ⟨-, ⟨y1, y2⟩, -⟩ := o1 j hj
      obtain ⟨d1, d2⟩ := isD_tn (by omega) y2
      rw [(g24 j hj).2.1, (g88 j hj).2.2, ← y1]
      exact ⟨d1, d1, d2⟩
    · obtain ⟨-, -, ⟨y1, y2⟩⟩ := o1 j hj
      obtain ⟨d1, d2⟩ := isD_tn (by omega) y2
      rw [(g24 j hj).2.2, (g88 j hj).1, ← y1]
      exact ⟨d1, d1, d2⟩
    · rw [v1 23 3 (by omega) (by omega), t2, up2_of (by omega), up2_of (by omega), m2, up2_of (by omega), u1 94 _ (by omega) (by omega) (by omega)]
      exact o2
    · rw [vv 0 11 (by omega) (by omega) (by omega) (by omega) (by omega), vv 83 0 (by omega) (by omega) (by omega) (by omega) (by omega)]; exact hS.2.1
    · rw [vv 0 10 (by omega) (by omega) (by omega) (by omega) (by omega), vv 83 1 (by omega) (by omega) (by omega) (by omega) (by omega)]; exact hS.2.2
    · refine ⟨p - 1, (q + 7) % 8, by omega, by omega, ?_, ?_, ?_, fun i hi => ?_⟩
      · rw [v1 27 1 (by omega) (by omega), t3 27 1 (by omega), up2_at]
      · rw [v1 27 2 (by omega) (by omega), t3 27 2 (by omega), up2_of (by omega), up2_at]
      · rw [m3 83 21 (by omega) (by omega), up2_at]
      · have ho := old i (by omega)
        rw [show ((q + 7) % 8 + 8 - (p - 1) + i) % 8 = (q + 8 - p + i) % 8 by omega]
        have hlt : (q + 8 - p + i) % 8 < 8 := Nat.mod_lt _ (by omega)
        exact ho.cong (fun k j r1 r2 => vv k j (by omega) (by omega) (by omega) (by omega) (by omega)) (fun j => vv 94 j (by omega) (by omega) (by omega) (by omega) (by omega))
