-- the fewest hands
def crC (W : Nat → Nat) (m : Nat) : Nat → Nat → Int32
  | 0, _ => -9
  | d + 1, v => if W v = m then nI v else crC W m d (v + 1)
def crM (W : Nat → Nat) (m : Nat) : Nat → Int32 → Int32
  | 0, x => x
  | v + 1, x => crM W m v (if W (v + 1) = m then nI (v + 1) else x)
theorem crC_s (W : Nat → Nat) (m d v : Nat) : crC W m (d + 1) v = if W v = m then nI v else crC W m d (v + 1) := rfl
theorem crM_s (W : Nat → Nat) (m v : Nat) (x : Int32) : crM W m (v + 1) x = crM W m v (if W (v + 1) = m then nI (v + 1) else x) := rfl
theorem crMC (W : Nat → Nat) (m : Nat) : ∀ v d, crM W m v (crC W m d (v + 1)) = crC W m (v + d) 1
  | 0, d => by
    rw [show 0 + d = d from Nat.zero_add d]
    rfl
  | v + 1, d => by
    rw [crM_s, ← crC_s, crMC W m v (d + 1)]
    congr 1
    omega
section CREW
variable {n : Nat} {kd ld br ht dr : Nat → Nat} {hd tr : Nat}
theorem c_crewL (R : Rng n kd ld br ht dr hd tr) {m : Nat} (hm : m ≤ 20) {mb mh : Nat → Nat} (mv : ∀ k, k < m → mb k < 8 ∧ mh k ≤ 9) {W : Nat → Nat} (hW : ∀ H, FW n (pl kd ld br) dr mb mh ht m H (W H)) : ∀ (d v fuel : Nat) (M : MM), CLo M n kd ld br ht dr hd tr → M 65 2 = nI m → (∀ k, k < m → M 66 k = nI (mb k) ∧ M 67 k = nI (mh k)) → v + d = 7 → d < fuel → ∃ M' : MM, g_X10_crew_62 fuel M (nI v) = some (crC W m d v, M') ∧ ∀ k j, ¬ (68 ≤ k ∧ k ≤ 70) → M' k j = M k j := by
  intro d
  induction d with
  | zero =>
    intro v fuel M h h1 h2 h3 h4
    obtain ⟨f, rfl⟩ : ∃ f, fuel = f + 1 := ⟨fuel - 1, by omega⟩
    obtain rfl : v = 7 := by omega
    rw [g_X10_crew_62, if_pos (show (6 : Int32) < nI 7 by decide)]
    exact ⟨M, rfl, fun _ _ _ => rfl⟩
  | succ d ih =>
    intro v fuel M h h1 h2 h3 h4
    obtain ⟨f, rfl⟩ : ∃ f, fuel = f + 1 := ⟨fuel - 1, by omega⟩
    obtain ⟨M1, c1, c2, c3, -⟩ := c_run h R hm (H := v) (by omega) mv (hW v) h1 h2
    rw [g_X10_crew_62, if_neg (show ¬ (6 : Int32) < nI v from nI_nlt (a := 6) (by omega) (by omega)), c1, br_s, c3, crC_s, show nI v + (1 : Int32) = nI (v + 1) from nI_1 v]
    by_cases e : W v = m
    · rw [if_pos e, if_pos rfl, if_pos e]
      exact ⟨M1, rfl, c2⟩
    · rw [if_neg e, if_neg (n9_d _ (by have := (hW v).1; omega)), if_neg e]
      obtain ⟨M', e1, e2⟩ := ih (v + 1) f M1 (h.cong (fun k j _ r => c2 k j (by unfold relLo at r; omega))) (by rw [c2 _ _ (by omega)]; exact h1) (fun k hk => by rw [c2 _ _ (by omega), c2 _ _ (by omega)]; exact h2 k hk) (by omega) (by omega)
      exact ⟨M', e1, fun k j r => by rw [e2 k j r, c2 k j r]⟩
theorem dn_d : ∀ v, v < 7 → nI (v + 1) + (-1 : Int32) = nI v := by decide +kernel
theorem MLo.hnd {M : MM} {x : Nat} (h : MLo M n kd ld br ht dr hd tr) : MLo (up2 M 83 6 (nI x)) n kd ld br ht dr x tr := ⟨by rw [up2_of (by omega)]; exact h.1, fun j hj => by rw [up2_of (by omega)]; exact h.2.1 j hj, fun j hj => by rw [up2_of (by omega)]; exact h.2.2.1 j hj, fun j hj => by rw [up2_of (by omega)]; exact h.2.2.2.1 j hj, fun j hj => by rw [up2_of (by omega)]; exact h.2.2.2.2.1 j hj, fun j hj => by rw [up2_of (by omega)]; exact h.2.2.2.2.2.1 j hj, up2_at _ _ _ _, by rw [up2_of (by omega)]; exact h.2.2.2.2.2.2.2⟩
theorem m_crewL (R : Rng n kd ld br ht dr hd tr) (hn : 1 ≤ n) {m o was : Nat} (hm : m ≤ 20) (ho : o + 2 * m ≤ 240) {mb mh : Nat → Nat} (mv : ∀ k, k < m → mb k < n ∧ mh k ≤ 9) {W : Nat → Nat} (hW : ∀ H, FW n (pl kd ld br) dr mb mh ht m H (W H)) : ∀ (v fuel x : Nat) (acc : Int32) (M : MM), v ≤ 6 → MLo M n kd ld br ht dr x tr → (∀ k, k < m → M 86 (o + 2 * k) = nI (mb k) ∧ M 86 (o + 2 * k + 1) = nI (mh k)) → v < fuel → ∃ M' : MM, g_X11_crew_110 fuel M (nI m) (nI o) (nI was) acc (nI v) = some (crM W m v acc, M') ∧ M' 83 6 = nI was ∧ ∀ k j, k ≠ 93 → k ≠ 99 → ¬ (k = 83 ∧ (j = 6 ∨ j = 28 ∨ j = 29)) → (k = 90 → j < 8) → M' k j = M k j := by
  intro v
  induction v with
  | zero =>
    intro fuel x acc M h6 h h2 hf
    obtain ⟨f, rfl⟩ : ∃ f, fuel = f + 1 := ⟨fuel - 1, by omega⟩
    rw [g_X11_crew_110, if_pos (show nI 0 ≤ 0 by decide), nm_eq]
    exact ⟨_, rfl, up2_at _ _ _ _, fun k j _ _ r _ => up2_of (by omega)⟩
  | succ v ih =>
    intro fuel x acc M h6 h h2 hf
    obtain ⟨f, rfl⟩ : ∃ f, fuel = f + 1 := ⟨fuel - 1, by omega⟩
    rw [g_X11_crew_110, if_neg (show ¬ nI (v + 1) ≤ 0 from nI_ge (b := v + 1) (a := 0) (by omega) (by omega)), nm_eq, dn_d v (by omega)]
    obtain ⟨Mk, k0, k1, k2⟩ := m_keepH (up2 M 83 6 (nI (v + 1)))
    have hMk : MLo Mk n kd ld br ht dr (v + 1) tr := h.hnd.cong (fun k i g r => by rw [k2 k i (by unfold relLo at r; omega)])
    have R1 : Rng n kd ld br ht dr (v + 1) tr := R.hts (fun j hj => (R.2.1 j hj).2.2.2.1) (by omega)
    obtain ⟨Ma, g0, g1, g2, -⟩ := m_goAct (M := Mk) (o := o) hMk R1 hn hm ho mv (hW (v + 1)) (fun k hk => by rw [k2 _ _ (by omega), k2 _ _ (by omega), up2_of (by omega), up2_of (by omega)]; exact h2 k hk)
    obtain ⟨Mp, p0, p1, p2⟩ := m_putH Ma
    have U : ∀ k j, k ≠ 93 → k ≠ 99 → ¬ (k = 83 ∧ (j = 6 ∨ j = 28 ∨ j = 29)) → (k = 90 → j < 8) → Mp k j = M k j := fun k j r1 r2 r3 r4 => by
      by_cases e : k = 90
      · subst e
        rw [p1 j (r4 rfl), g1 99 j (by omega) (by omega) (by omega), k1 j (r4 rfl), up2_of (by omega)]
      · rw [p2 k j e, g1 k j e r1 (by omega), k2 k j r2, up2_of (by omega)]
    have hMp : MLo Mp n kd ld br ht dr (v + 1) tr := by
      refine h.hnd.cong (fun k i g r => ?_)
      by_cases e : k = 83 ∧ i = 6
      · rw [e.1, e.2, p2 _ _ (by omega), g1 _ _ (by omega) (by omega) (by omega), k2 _ _ (by omega)]
      · unfold relLo at r
        rw [U k i (by omega) (by omega) (by omega) (by omega), up2_of e]
    rw [k0, br_s, g0, bi_s, p0, br_s, br_s, crM_s]
    have fin : ∀ acc2 : Int32, ∃ M' : MM, g_X11_crew_110 f Mp (nI m) (nI o) (nI was) acc2 (nI v) = some (crM W m v acc2, M') ∧ M' 83 6 = nI was ∧ ∀ k j, k ≠ 93 → k ≠ 99 → ¬ (k = 83 ∧ (j = 6 ∨ j = 28 ∨ j = 29)) → (k = 90 → j < 8) → M' k j = M k j := fun acc2 => by
      obtain ⟨M', e1, e2, e3⟩ := ih f (v + 1) acc2 Mp (by omega) hMp (fun k hk => by rw [U _ _ (by omega) (by omega) (by omega) (by omega), U _ _ (by omega) (by omega) (by omega) (by omega)]; exact h2 k hk) (by omega)
      exact ⟨M', e1, e2, fun k j r1 r2 r3 r4 => by rw [e3 k j r1 r2 r3 r4, U k j r1 r2 r3 r4]⟩
    by_cases e : W (v + 1) = m
    · rw [if_pos e, if_pos rfl, if_pos e]
      exact fin _
    · rw [if_neg e, if_neg (n9_d _ (by have := (hW (v + 1)).1; omega)), if_neg e]
      exact fin _
end CREW
theorem s_crew : St_crew Inv := by
  intro M h a1 a2 a3 a4
  cases hin : inR a1 0 3 with
  | false => exact ⟨-1, up2 M 0 11 0, up2 (up2 M 0 11 0) 83 0 0, by simp [f_X10_crew, nm_eq, q_X10_isSheet, hin, br_s, b2i0], by simp [f_X11_crew, nm_eq, q_X11_isSheet, hin, br_s, b2i0], h.flt1 0⟩
  | true =>
    obtain ⟨j, hj, rfl⟩ := inR_yes0 (by omega) hin
    cases h2 : inR a2 0 2 with
    | false => exact ⟨-2, up2 M 0 11 0, up2 (up2 M 0 11 0) 83 0 0, by simp [f_X10_crew, nm_eq, q_X10_isSheet, q_X10_isLane, hin, h2, br_s, b2i0], by simp [f_X11_crew, nm_eq, q_X11_isSheet, q_X11_isSort, hin, h2, br_s, b2i0], h.flt1 0⟩
    | true =>
      cases h4 : inR a4 0 20 with
      | false => exact ⟨-2, up2 M 0 11 0, up2 (up2 M 0 11 0) 83 0 0, by simp [f_X10_crew, nm_eq, q_X10_isSheet, q_X10_isLane, w10_0_20, hin, h2, h4, br_s, b2i0], by simp [f_X11_crew, nm_eq, q_X11_isSheet, q_X11_isSort, w11_0_20, hin, h2, h4, br_s, b2i0], h.flt1 0⟩
      | true =>
        obtain ⟨m, hm, rfl⟩ := inR_yes0 (by omega) h4
        obtain ⟨r, M1, M2, e1, e2, e3⟩ := pairs_step h (j := j) (by omega) a2 a3 (m := m) (by omega) (fun M10 => g_X10_crew_62 FU M10 (1 : Int32)) (fun M1 x10 => (nm (M1 83 6) fun x13 => g_X11_crew_110 FU M1 (nI m) x10 x13 (-9 : Int32) (6 : Int32))) (fun M' n kd ld br ht dr hd tr i0 mb mh hp => by
          obtain ⟨hL, hS, h3, h4, h5, h6, hn, hm2, hj, ho, z1, z2⟩ := hp
          have n8 := hL.n8
          have R := hL.2.2.1
          obtain ⟨W, hW⟩ : ∃ W : Nat → Nat, ∀ H, FW n (pl kd ld br) dr mb mh ht m H (W H) := ⟨fun H => Classical.choose (FW_ex n (pl kd ld br) dr mb mh ht H m), fun H => Classical.choose_spec (FW_ex n (pl kd ld br) dr mb mh ht H m)⟩
          obtain ⟨M1, c1, c2⟩ := c_crewL R hm2 (fun k hk => ⟨by have := (z2 k hk).1; omega, (z2 k hk).2.1⟩) hW 6 1 FU M' hL.1 z1 (fun k hk => ⟨(z2 k hk).2.2.1, (z2 k hk).2.2.2.1⟩) (by omega) (by have := FU_eq; omega)
          have U1 : ∀ k i, 83 ≤ k → M1 k i = M' k i := fun k i hk => c2 k i (by omega)
          obtain ⟨M2, d1, d2, d3⟩ := m_crewL (o := 60 * j + i0) (was := hd) R (by omega) hm2 ho (fun k hk => ⟨(z2 k hk).1, (z2 k hk).2.1⟩) hW 6 FU hd (-9) (up2 M1 83 0 0) (by omega) (hL.2.1.cong (fun k i g r => by rw [up2_of (by unfold relLo at r; omega), U1 k i g])) (fun k hk => by rw [up2_of (by omega), up2_of (by omega), U1 _ _ (by omega), U1 _ _ (by omega)]; exact (z2 k hk).2.2.2.2) (by have := FU_eq; omega)
          have ec : crM W m 6 (-9) = crC W m 6 1 := crMC W m 6 0
          rw [ec] at d1
          refine ⟨crC W m 6 1, M1, M2, c1, U1, ?_, ?_⟩
          · try dsimp only
            rw [nm_eq, up2_of (show ¬ (83 = 83 ∧ 6 = 0) by omega), U1 83 6 (by omega), hL.aM]
            exact d1
          · refine Inv.scr2 (M := up2 M' 83 0 0) ⟨n, kd, ld, br, ht, dr, hd, tr, hL.cong (fun k i r => up2_of (by unfold relLo at r; omega)), hS, h3.cong (fun k i r => up2_of (by unfold relSh at r; omega)), h4.cong (fun k i r => up2_of (by unfold relPs at r; omega)), h5.cong (fun k i r => up2_of (by unfold relIm at r; omega)), h6.cong (fun k i r => up2_of (by unfold relRd at r; omega))⟩ (fun k i r r2 => ?_)
            unfold scrP at r
            by_cases e : k = 83 ∧ i = 6
            · rw [e.1, e.2, d2, up2_of (by omega), hL.aM]
            · rw [d3 k i (by omega) (by omega) (by omega) r2, up2_eq, up2_eq, c2 k i (by omega)])
        refine ⟨r, M1, M2, ?_, ?_, e3⟩
        · unfold f_X10_crew
          rw [nm_eq, q_X10_isSheet, hin, br_s, if_neg (by decide), q_X10_isLane, h2, br_s, if_neg (by decide), w10_0_20, h4, br_s, if_neg (by decide), if_pos (ib_ok (by omega) (by omega)), nI_clamp (by omega)]
          exact e1
        · unfold f_X11_crew
          rw [nm_eq, q_X11_isSheet, hin, br_s, if_neg (by decide), q_X11_isSort, h2, br_s, if_neg (by decide), w11_0_20, h4, br_s, if_neg (by decide)]
          exact e2
