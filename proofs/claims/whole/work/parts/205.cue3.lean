theorem s_fly : St_fly Inv := by
  intro M h a1 a2
  obtain ⟨n, kd, ld, br, ht, dr, hd, tr, hL, hS, h3, h4, h5, h6⟩ := id h
  have n8 := hL.n8
  cases hin : hb n a1 with
  | false => exact ⟨-1, M, M, by simp [f_X10_fly, c_has hL.n1, hin, br_s, b2i0], by simp [f_X11_fly, m_has hL.n2, hin, br_s, b2i0], h⟩
  | true =>
    obtain ⟨j, hj, rfl⟩ := hb_yes (by omega) hin
    cases h2 : inR a2 0 9 with
    | false => exact ⟨-2, M, M, by simp [f_X10_fly, c_has hL.n1, hin, br_s, b2i0, q_X10_isHeight, h2], by simp [f_X11_fly, m_has hL.n2, hin, br_s, b2i0, q_X11_isDigit, h2], h⟩
    | true =>
      obtain ⟨v, v9, rfl⟩ := inR_yes0 (by omega) h2
      have ea : f_X2_add (up2 M 65 2 0) (nI j) (nI v) = some (up2 (up2 (up2 (up2 M 65 2 0) 66 0 (nI j)) 67 0 (nI v)) 65 2 1) := by
        unfold f_X2_add
        rw [up2_at, if_neg (by decide), if_pos (by decide), nm_eq, up2_of (by omega), up2_at, if_pos (by decide), nm_eq, up2_of (by omega), up2_of (by omega), up2_at, nm_eq]
        rfl
      generalize eM : up2 (up2 (up2 (up2 M 65 2 0) 66 0 (nI j)) 67 0 (nI v)) 65 2 1 = Ma at ea
      have u : ∀ k i, ¬ (65 ≤ k ∧ k ≤ 67) → Ma k i = M k i := fun k i r => by rw [← eM, up2_of (by omega), up2_of (by omega), up2_of (by omega), up2_of (by omega)]
      obtain ⟨r, M1, e1, e2, e3⟩ := do_both (M0 := Ma) (M' := Ma) (m := 1) (mb := fun _ => j) (mh := fun _ => v) (hL.cong (fun k i r => u k i (by unfold relLo at r; omega))) (hS.cong (fun k i r => u k i (by unfold relMs at r; omega))) (h3.cong (fun k i r => u k i (by unfold relSh at r; omega))) (h4.cong (fun k i r => u k i (by unfold relPs at r; omega))) (h5.cong (fun k i r => u k i (by unfold relIm at r; omega))) (h6.cong (fun k i r => u k i (by unfold relRd at r; omega))) (by omega) (fun _ _ _ => rfl) (by omega) (by rw [← eM, up2_at]; rfl) (fun k hk => by
        obtain rfl : k = 0 := by omega
        exact ⟨hj, v9, by rw [← eM, up2_of (by omega), up2_of (by omega), up2_at], by rw [← eM, up2_of (by omega), up2_at]⟩)
      have w : ∀ k i, 83 ≤ k → M1 k i = M k i := fun k i hk => by rw [e2 k i hk, u k i (by omega)]
      obtain ⟨Mg, g0, g1, g2⟩ := m_goalsN (M := M1) n8 (by rw [w _ _ (by omega)]; exact hL.n2)
      obtain ⟨M2, f1, f2⟩ := e3 (up2 Mg 93 j (nI v)) (fun k i hk => by rw [up2_of (by omega), g2 k i (by omega)]) (fun k i hk hk2 => by rw [up2_of (by omega), g2 k i (by omega), e2 k i hk]) (fun i hi => by
        show _ = nI (if i = j then v else ht i)
        by_cases e : i = j
        · rw [if_pos e, e, up2_at]
        · rw [if_neg e, up2_of (by omega), g1 i hi, w _ _ (by omega)]
          exact hL.hM (by omega))
      refine ⟨r, M1, M2, ?_, ?_, f2⟩
      · unfold f_X10_fly
        rw [c_has hL.n1, hin, br_s, if_neg (by decide), q_X10_isHeight, h2, br_s, if_neg (by decide), nm_eq, ea, br_s, e1, bi_s]
      · unfold f_X11_fly
        rw [m_has (n := n) (by rw [w _ _ (by omega)]; exact hL.n2), hin, br_s, if_neg (by decide), q_X11_isDigit, h2, br_s, if_neg (by decide), g0, br_s, if_pos (ib_ok (by omega) (by omega)), nI_clamp (by omega), nm_eq, f1, bi_s]
/-- the reference sets its goals by pairs -/
theorem m_cueL {m o : Nat} (hm : m ≤ 20) (ho : o + 2 * m ≤ 240) {mb mh a : Nat → Nat} {n : Nat} (n8 : n ≤ 8) (hb : ∀ k, k < m → mb k < n) : ∀ (d i fuel : Nat) (M : MM), (∀ k, k < m → M 86 (o + 2 * k) = nI (mb k) ∧ M 86 (o + 2 * k + 1) = nI (mh k)) → (∀ j, j < n → M 93 j = nI (apM mb mh a i j)) → i + d = m → d < fuel → ∃ Ma : MM, g_X11_cue_117 fuel M (nI m) (nI o) (nI i) = f_X11_doCue Ma ∧ (∀ k j, k ≠ 93 → Ma k j = M k j) ∧ ∀ j, j < n → Ma 93 j = nI (apM mb mh a m j) := by
  intro d
  induction d with
  | zero =>
    intro i fuel M h2 h3 h4 h5
    obtain ⟨f, rfl⟩ : ∃ f, fuel = f + 1 := ⟨fuel - 1, by omega⟩
    obtain rfl : i = m := by omega
    refine ⟨M, ?_, fun _ _ _ => rfl, h3⟩
    rw [g_X11_cue_117, if_pos (nI_le (Nat.le_refl i) (by omega))]
    cases f_X11_doCue M <;> rfl
  | succ d ih =>
    intro i fuel M h2 h3 h4 h5
    obtain ⟨f, rfl⟩ : ∃ f, fuel = f + 1 := ⟨fuel - 1, by omega⟩
    obtain ⟨a1, a2⟩ := h2 i (by omega)
    have b1 := hb i (by omega)
    rw [g_X11_cue_117, if_neg (nI_ge (by omega) (by omega)), ix2, show nI (o + 2 * i) + (1 : Int32) = nI (o + 2 * i + 1) from nI_1 _, if_pos (ib_ok (by omega) (by omega)), if_pos (ib_ok (by omega) (by omega)), nI_clamp (by omega), nI_clamp (by omega), a1, a2, if_pos (ib_ok (by omega) (by omega)), nI_clamp (by omega), nm_eq, show nI i + (1 : Int32) = nI (i + 1) from nI_1 _]
    obtain ⟨Ma, e1, e2, e3⟩ := ih (i + 1) f (up2 M 93 (mb i) (nI (mh i))) (fun k hk => by rw [up2_of (by omega), up2_of (by omega)]; exact h2 k hk) (fun j hj => by
      rw [apM_s]
      by_cases e : j = mb i
      · rw [if_pos e, e, up2_at]
      · rw [if_neg e, up2_of (by omega)]; exact h3 j hj) (by omega) (by omega)
    exact ⟨Ma, e1, fun k j r => by rw [e2 k j r, up2_of (by omega)], e3⟩
theorem s_cue : St_cue Inv := by
  intro M h a1 a2 a3 a4
  cases hin : inR a1 0 3 with
  | false => exact ⟨-1, up2 M 0 11 0, up2 (up2 M 0 11 0) 83 0 0, by simp [f_X10_cue, nm_eq, q_X10_isSheet, hin, br_s, b2i0], by simp [f_X11_cue, nm_eq, q_X11_isSheet, hin, br_s, b2i0], h.flt1 0⟩
  | true =>
    obtain ⟨j, hj, rfl⟩ := inR_yes0 (by omega) hin
    cases h2 : inR a2 0 2 with
    | false => exact ⟨-2, up2 M 0 11 0, up2 (up2 M 0 11 0) 83 0 0, by simp [f_X10_cue, nm_eq, q_X10_isSheet, q_X10_isLane, hin, h2, br_s, b2i0], by simp [f_X11_cue, nm_eq, q_X11_isSheet, q_X11_isSort, hin, h2, br_s, b2i0], h.flt1 0⟩
    | true =>
      cases h4 : inR a4 0 8 with
      | false => exact ⟨-2, up2 M 0 11 0, up2 (up2 M 0 11 0) 83 0 0, by simp [f_X10_cue, nm_eq, q_X10_isSheet, q_X10_isLane, w10_0_8, hin, h2, h4, br_s, b2i0], by simp [f_X11_cue, nm_eq, q_X11_isSheet, q_X11_isSort, w11_0_8, hin, h2, h4, br_s, b2i0], h.flt1 0⟩
      | true =>
        obtain ⟨m, hm, rfl⟩ := inR_yes0 (by omega) h4
        obtain ⟨r, M1, M2, e1, e2, e3⟩ := pairs_step h (j := j) (by omega) a2 a3 (m := m) (by omega) (fun M10 => (br (f_X2_repeatBatten M10) fun r12 => (if r12 = 0 then (bi (f_X10_doMoves M10) fun r14 M15 => (some (r14, M15))) else (some ((-3 : Int32), M10))))) (fun M1 x10 => (br (f_X11_isTwice M1 x10 (nI m)) fun r13 => (if r13 = 0 then (br (f_X11_goalsAsNow M1) fun M16 => g_X11_cue_117 FU M16 (nI m) x10 (0 : Int32)) else (some ((-3 : Int32), M1))))) (fun M' n kd ld br ht dr hd tr i0 mb mh hp => by
          obtain ⟨hL, hS, h3, h4, h5, h6, hn, hm2, hj, ho, z1, z2⟩ := hp
          have n8 := hL.n8
          have et1 : f_X2_repeatBatten M' = some (b2i (twS mb m 0 0)) := c_tw hm2 z1 (fun k hk => ⟨by have := (z2 k hk).1; omega, (z2 k hk).2.2.1⟩) m 0 FU 0 (by omega) (by have := FU_eq; omega) (by omega)
          have et2 : ∀ M1 : MM, (∀ i, M1 86 i = M' 86 i) → f_X11_isTwice M1 (nI (60 * j + i0)) (nI m) = some (b2i (twS mb m 0 0)) := fun M1 q => m_tw hm2 ho (fun k hk => ⟨by have := (z2 k hk).1; omega, by rw [q]; exact (z2 k hk).2.2.2.2.1⟩) m 0 FU 0 (by omega) (by have := FU_eq; omega) (by omega)
          have hI : ∀ M1 : MM, M1 = up2 M' 83 0 0 → Inv M1 := fun M1 e => by
            subst e
            exact ⟨n, kd, ld, br, ht, dr, hd, tr, hL.cong (fun k i r => up2_of (by unfold relLo at r; omega)), hS, h3.cong (fun k i r => up2_of (by unfold relSh at r; omega)), h4.cong (fun k i r => up2_of (by unfold relPs at r; omega)), h5.cong (fun k i r => up2_of (by unfold relIm at r; omega)), h6.cong (fun k i r => up2_of (by unfold relRd at r; omega))⟩
          try dsimp only
          rw [et1, br_s]
          cases htw : twS mb m 0 0 with
          | true =>
            rw [if_neg (by decide)]
            refine ⟨-3, M', up2 M' 83 0 0, rfl, fun _ _ _ => rfl, ?_, hI _ rfl⟩
            rw [et2 _ (fun i => by rw [up2_of (by omega)]), br_s, htw, if_neg (by decide)]
          | false =>
            rw [if_pos (show b2i false = 0 from rfl)]
            obtain ⟨r, M1, e1, e2, e3⟩ := do_both (M0 := up2 M' 83 0 0) (M' := M') (m := m) (mb := mb) (mh := mh) (hL.cong (fun k i r => up2_of (by unfold relLo at r; omega))) hS (h3.cong (fun k i r => up2_of (by unfold relSh at r; omega))) (h4.cong (fun k i r => up2_of (by unfold relPs at r; omega))) (h5.cong (fun k i r => up2_of (by unfold relIm at r; omega))) (h6.cong (fun k i r => up2_of (by unfold relRd at r; omega))) hn (fun k i hk => by rw [up2_of (by omega)]) hm2 z1 (fun k hk => ⟨(z2 k hk).1, (z2 k hk).2.1, (z2 k hk).2.2.1, (z2 k hk).2.2.2.1⟩)
            obtain ⟨Mg, g0, g1, g2⟩ := m_goalsN (M := up2 M1 83 0 0) n8 (by rw [up2_of (by omega), e2 _ _ (by omega)]; exact hL.n2)
            obtain ⟨Ma, q1, q2, q3⟩ := m_cueL hm2 ho (mb := mb) (mh := mh) (a := ht) n8 (fun k hk => (z2 k hk).1) m 0 FU Mg (fun k hk => by rw [g2 _ _ (by omega), g2 _ _ (by omega), up2_of (by omega), up2_of (by omega), e2 _ _ (by omega), e2 _ _ (by omega)]; exact (z2 k hk).2.2.2.2) (fun i hi => by rw [g1 i hi, up2_of (by omega), e2 _ _ (by omega)]; exact hL.hM (by omega)) (by omega) (by have := FU_eq; omega)
            obtain ⟨M2, f1, f2⟩ := e3 Ma (fun k i hk => by rw [q2 k i (by omega), g2 k i (by omega), up2_of (by omega)]) (fun k i hk hk2 => by rw [q2 k i hk2, g2 k i (by omega), up2_eq, up2_eq, e2 k i hk]) q3
            refine ⟨r, M1, M2, by rw [e1, bi_s], e2, ?_, f2⟩
            rw [et2 _ (fun i => by rw [up2_of (by omega), e2 _ _ (by omega)]), br_s, htw, if_pos (show b2i false = 0 from rfl), g0, br_s]
            exact q1.trans f1)
        refine ⟨r, M1, M2, ?_, ?_, e3⟩
        · unfold f_X10_cue
          rw [nm_eq, q_X10_isSheet, hin, br_s, if_neg (by decide), q_X10_isLane, h2, br_s, if_neg (by decide), w10_0_8, h4, br_s, if_neg (by decide), if_pos (ib_ok (by omega) (by omega)), nI_clamp (by omega)]
          exact e1
        · unfold f_X11_cue
          rw [nm_eq, q_X11_isSheet, hin, br_s, if_neg (by decide), q_X11_isSort, h2, br_s, if_neg (by decide), w11_0_8, h4, br_s, if_neg (by decide)]
          exact e2
