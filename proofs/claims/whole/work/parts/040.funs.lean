def FU : Nat := 7000
def br {σ τ : Type} (x : Option σ) (f : σ → Option τ) : Option τ := match x with
  | some q => f q
  | none => none
def bi {τ : Type} (x : Option (Int32 × MM)) (f : Int32 → MM → Option τ) : Option τ := match x with
  | some q => f q.1 q.2
  | none => none
def bl {τ : Type} (x : Option (Int64 × MM)) (f : Int64 → MM → Option τ) : Option τ := match x with
  | some q => f q.1 q.2
  | none => none
theorem br_some {σ τ : Type} {x : Option σ} {f : σ → Option τ} {z : τ} (h : br x f = some z) : ∃ r, x = some r ∧ f r = some z := by
  cases x with
  | none => cases h
  | some q => exact ⟨q, rfl, h⟩
theorem bi_some {τ : Type} {x : Option (Int32 × MM)} {f : Int32 → MM → Option τ} {z : τ} (h : bi x f = some z) : ∃ r M1, x = some (r, M1) ∧ f r M1 = some z := by
  cases x with
  | none => cases h
  | some q => exact ⟨q.1, q.2, rfl, h⟩
theorem bl_some {τ : Type} {x : Option (Int64 × MM)} {f : Int64 → MM → Option τ} {z : τ} (h : bl x f = some z) : ∃ r M1, x = some (r, M1) ∧ f r M1 = some z := by
  cases x with
  | none => cases h
  | some q => exact ⟨q.1, q.2, rfl, h⟩
def f_X10_pullOf (M : MM) (v0 : Int32) (v1 : Int32) (v2 : Int32) : Option Int32 :=
  (nm (ab32 (v1 - v2)) fun x1 =>
  (if v0 = 0 then
    (some x1)
  else
  (if v0 = 1 then
    (some (mx32 (x1 - (1 : Int32)) (0 : Int32)))
  else
  (some (x1 / (2 : Int32))))))
def f_X1_pull (M : MM) (v1 : Int32) : Option Int32 :=
  (if ib v1 8 = true then
  (if ib v1 8 = true then
  (if ib v1 8 = true then
  (br (f_X10_pullOf M (M 21 v1.toNatClampNeg) (M 24 v1.toNatClampNeg) (M 25 v1.toNatClampNeg)) fun r1 =>
  (some r1)) else none) else none) else none)
def g_X1_foul_44 (M : MM) (k2 : Nat) (k3 : Nat) (v1 : Int32) : Option Int32 :=
  (if ib v1 8 = true then
  (if ib (v1 + (1 : Int32)) 8 = true then
  (if (M k2 (v1 + (1 : Int32)).toNatClampNeg) ≤ (M k2 v1.toNatClampNeg) then
    (some (0 : Int32))
  else
    (if ib v1 8 = true then
    (if ib (v1 + (1 : Int32)) 8 = true then
    (if (M k3 v1.toNatClampNeg) ≤ (M k3 (v1 + (1 : Int32)).toNatClampNeg) then
      (some (0 : Int32))
    else
      (some (1 : Int32))) else none) else none)) else none) else none)
def f_X1_foul (M : MM) (v1 : Int32) (k2 : Nat) (k3 : Nat) : Option Int32 :=
  (if ib v1 8 = true then
  (if (M 22 v1.toNatClampNeg) = 0 then
    (some (0 : Int32))
  else
    (if ib (v1 + (1 : Int32)) 8 = true then
    (if (M 22 (v1 + (1 : Int32)).toNatClampNeg) = 0 then
      (some (0 : Int32))
    else
      (if ib v1 8 = true then
      (if ib (v1 + (1 : Int32)) 8 = true then
      (if (M k2 v1.toNatClampNeg) ≤ (M k2 (v1 + (1 : Int32)).toNatClampNeg) then
        g_X1_foul_44 M k2 k3 v1
      else
        (if ib v1 8 = true then
        (if ib (v1 + (1 : Int32)) 8 = true then
        (if (M k3 v1.toNatClampNeg) < (M k3 (v1 + (1 : Int32)).toNatClampNeg) then
          (some (1 : Int32))
        else
          g_X1_foul_44 M k2 k3 v1) else none) else none)) else none) else none)) else none)) else none)
def g_X1_canBe_38 (M : MM) (rec6 : Int32 → Int32 → Int32 → Option Int32) (k1 : Nat) (k2 : Nat) (v3 : Int32) (v5 : Int32) (s0 : Int32) (s1 : Int32) : Option Int32 :=
  (nm (s1 + s0) fun x3 =>
  (if (M 20 3) ≤ (v5 + (1 : Int32)) then
    rec6 v3 x3 (v5 + (1 : Int32))
  else
    (br (f_X1_foul M v5 k1 k2) fun r4 =>
    (if r4 = 0 then
      rec6 v3 x3 (v5 + (1 : Int32))
    else
      (some (0 : Int32))))))
def g_X1_canBe_6 (M : MM) (k1 : Nat) (k2 : Nat) : Nat → Int32 → Int32 → Int32 → Option Int32
  | 0, _, _, _ => none
  | n + 1, v3, v4, v5 =>
    (if (M 20 3) ≤ v5 then
      (if v3 < v4 then
        (some (0 : Int32))
      else
        (some (1 : Int32)))
    else
      (if ib v5 8 = true then
      (if ib v5 8 = true then
      (if (M k1 v5.toNatClampNeg) = (M k2 v5.toNatClampNeg) then
        g_X1_canBe_38 M (g_X1_canBe_6 M k1 k2 n) k1 k2 v3 v5 (0 : Int32) v4
      else
        (br (f_X1_pull M v5) fun r1 =>
        g_X1_canBe_38 M (g_X1_canBe_6 M k1 k2 n) k1 k2 v3 v5 r1 v4)) else none) else none))
def f_X1_canBe (M : MM) (k1 : Nat) (k2 : Nat) (v3 : Int32) : Option Int32 :=
  g_X1_canBe_6 M k1 k2 FU v3 (0 : Int32) (0 : Int32)
def g_X0_run_55 : Nat → MM → Int32 → Int32 → Option MM
  | 0, _, _, _ => none
  | n + 1, M, v3, v4 =>
    (if (M 65 2) ≤ v4 then
      (some M)
    else
      (if ib v4 20 = true then
      (nm (M 66 v4.toNatClampNeg) fun x6 =>
      (if ib v4 20 = true then
      (if ib x6 8 = true then nm (up2 M 70 x6.toNatClampNeg (M 67 v4.toNatClampNeg)) fun M7 =>
      (br (f_X1_canBe M7 69 70 v3) fun r8 =>
      (if r8 = 0 then
        (nm (up2 M7 68 4 v4) fun M16 =>
        (some M16))
      else
        (if ib x6 8 = true then
        (if ib x6 8 = true then
        (nm (ab32 ((M7 70 x6.toNatClampNeg) - (M7 69 x6.toNatClampNeg))) fun x10 =>
        (nm (up2 M7 68 2 ((M7 68 2) + x10)) fun M11 =>
        (br (f_X1_pull M11 x6) fun r12 =>
        (nm (up2 M11 68 3 ((M11 68 3) + (x10 * r12))) fun M14 =>
        (if ib x6 8 = true then
        (if ib x6 8 = true then nm (up2 M14 69 x6.toNatClampNeg (M14 70 x6.toNatClampNeg)) fun M15 =>
        g_X0_run_55 n M15 v3 (v4 + (1 : Int32)) else none) else none))))) else none) else none))) else none) else none)) else none))
def f_X0_run (M : MM) (v3 : Int32) : Option MM :=
  (nm (up2 M 68 2 (0 : Int32)) fun M1 =>
  (nm (up2 M1 68 3 (0 : Int32)) fun M2 =>
  (nm (up2 M2 68 4 (-9 : Int32)) fun M3 =>
  (if cpok (0 : Int32) (0 : Int32) (8 : Int32) 8 8 = true then nm (upR M3 69 (va_cpy (M3 26) (M3 69) (0 : Int32).toNatClampNeg (0 : Int32).toNatClampNeg (8 : Int32).toNatClampNeg)) fun M4 =>
  (if cpok (0 : Int32) (0 : Int32) (8 : Int32) 8 8 = true then nm (upR M4 70 (va_cpy (M4 26) (M4 70) (0 : Int32).toNatClampNeg (0 : Int32).toNatClampNeg (8 : Int32).toNatClampNeg)) fun M5 =>
  g_X0_run_55 FU M5 v3 (0 : Int32) else none) else none))))
def f_X9_kindOf (M : MM) (v0 : Int32) : Option Int32 :=
  (if v0 = (108 : Int32) then
    (some (0 : Int32))
  else
    (if v0 = (97 : Int32) then
      (some (1 : Int32))
    else
      (some (2 : Int32))))
def g_X1_build_58 (k1 : Nat) : Nat → MM → Int32 → Int32 → Option MM
  | 0, _, _, _ => none
  | n + 1, M, v2, v4 =>
    (if (M 20 3) ≤ v4 then
      (some M)
    else
      (nm ((v2 + (4 : Int32)) + (v4 * (6 : Int32))) fun x5 =>
      (if ib (x5 + (1 : Int32)) 60 = true then
      (br (f_X9_kindOf M (M k1 (x5 + (1 : Int32)).toNatClampNeg)) fun r6 =>
      (if ib v4 8 = true then nm (up2 M 21 v4.toNatClampNeg r6) fun M8 =>
      (if ib (x5 + (2 : Int32)) 60 = true then
      (if ib v4 8 = true then nm (up2 M8 24 v4.toNatClampNeg ((M8 k1 (x5 + (2 : Int32)).toNatClampNeg) - (48 : Int32))) fun M9 =>
      (if ib (x5 + (3 : Int32)) 60 = true then
      (if ib v4 8 = true then nm (up2 M9 25 v4.toNatClampNeg ((M9 k1 (x5 + (3 : Int32)).toNatClampNeg) - (48 : Int32))) fun M10 =>
      (if ib (x5 + (4 : Int32)) 60 = true then
      (if ib v4 8 = true then nm (up2 M10 26 v4.toNatClampNeg ((M10 k1 (x5 + (4 : Int32)).toNatClampNeg) - (48 : Int32))) fun M11 =>
      (if ib (x5 + (5 : Int32)) 60 = true then
      (if ib v4 8 = true then nm (up2 M11 22 v4.toNatClampNeg ((M11 k1 (x5 + (5 : Int32)).toNatClampNeg) - (48 : Int32))) fun M12 =>
      g_X1_build_58 k1 n M12 v2 (v4 + (1 : Int32)) else none) else none) else none) else none) else none) else none) else none) else none) else none)) else none)))
def f_X1_build (M : MM) (k1 : Nat) (v2 : Int32) (v3 : Int32) : Option MM :=
  (if ib (v2 + (1 : Int32)) 60 = true then
  (nm (up2 M 23 4 ((M k1 (v2 + (1 : Int32)).toNatClampNeg) - (48 : Int32))) fun M1 =>
  (if ib (v2 + (2 : Int32)) 60 = true then
  (nm (up2 M1 23 5 ((M1 k1 (v2 + (2 : Int32)).toNatClampNeg) - (48 : Int32))) fun M2 =>
  (if ib (v2 + (3 : Int32)) 60 = true then
  (nm (up2 M2 23 3 ((M2 k1 (v2 + (3 : Int32)).toNatClampNeg) - (48 : Int32))) fun M3 =>
  (nm (up2 M3 20 3 ((v3 - (4 : Int32)) / (6 : Int32))) fun M4 =>
  g_X1_build_58 k1 FU M4 v2 (0 : Int32))) else none)) else none)) else none)
def f_X1_has (M : MM) (v1 : Int32) : Option Int32 :=
  (if v1 < 0 then
    (some (0 : Int32))
  else
    (if (M 20 3) ≤ v1 then
      (some (0 : Int32))
    else
      (some (1 : Int32))))
def f_X1_edge (M : MM) (v1 : Int32) (v2 : Int32) : Option Int32 :=
  (if ib v1 8 = true then
  (some (mx32 (v2 - (M 22 v1.toNatClampNeg)) (0 : Int32))) else none)
def g_X1_seenAt_13 (M : MM) (k1 : Nat) : Nat → Int32 → Int32 → Int32 → Option Int32
  | 0, _, _, _ => none
  | n + 1, v2, v3, v4 =>
    (if (M 20 3) ≤ v4 then
      (some v2)
    else
      (if ib v4 8 = true then
      (br (f_X1_edge M v4 (M k1 v4.toNatClampNeg)) fun r2 =>
      (if v3 ≤ r2 then
        g_X1_seenAt_13 M k1 n v2 v3 (v4 + (1 : Int32))
      else
        (nm (v2 ||| (sl32 (1 : Int32) v4)) fun x4 =>
        g_X1_seenAt_13 M k1 n x4 r2 (v4 + (1 : Int32))))) else none))
def f_X1_seenAt (M : MM) (k1 : Nat) : Option Int32 :=
  (nm (M 23 5) fun x1 =>
  g_X1_seenAt_13 M k1 FU (0 : Int32) x1 (0 : Int32))
def g_X1_hiderOf_31 (M : MM) : Nat → Int32 → Int32 → Int32 → Option Int32
  | 0, _, _, _ => none
  | n + 1, v1, v2, v3 =>
    (if v1 ≤ v3 then
      (some (-9 : Int32))
    else
      (if ib v3 8 = true then
      (br (f_X1_edge M v3 (M 26 v3.toNatClampNeg)) fun r3 =>
      (if v2 < r3 then
        g_X1_hiderOf_31 M n v1 v2 (v3 + (1 : Int32))
      else
        (some v3))) else none))
def f_X1_hiderOf (M : MM) (v1 : Int32) : Option Int32 :=
  (if ib v1 8 = true then
  (br (f_X1_edge M v1 (M 26 v1.toNatClampNeg)) fun r1 =>
  (if r1 < (M 23 5) then
    g_X1_hiderOf_31 M FU v1 r1 (0 : Int32)
  else
    (some (-9 : Int32)))) else none)
def g_X1_isSeenAmongUp_10 (M : MM) : Nat → Int32 → Int32 → Int32 → Option Int32
  | 0, _, _, _ => none
  | n + 1, v1, v2, v3 =>
    (if v1 ≤ v3 then
      (if (M 23 5) ≤ v2 then
        (some (0 : Int32))
      else
        (some (1 : Int32)))
    else
      (br (f_X1_edge M v3 (9 : Int32)) fun r3 =>
      (if v2 < r3 then
        g_X1_isSeenAmongUp_10 M n v1 v2 (v3 + (1 : Int32))
      else
        (some (0 : Int32)))))
def f_X1_isSeenAmongUp (M : MM) (v1 : Int32) : Option Int32 :=
  (br (f_X1_edge M v1 (9 : Int32)) fun r1 =>
  g_X1_isSeenAmongUp_10 M FU v1 r1 (0 : Int32))
def g_X1_beats_5 (M : MM) (k1 : Nat) (k2 : Nat) : Nat → Int32 → Int32 → Option Int32
  | 0, _, _ => none
  | n + 1, v3, v4 =>
    (if (M 20 3) ≤ v4 then
      (some v3)
    else
      (if ib v4 8 = true then
      (if ib v4 8 = true then
      (nm (mx32 v3 (ab32 ((M k2 v4.toNatClampNeg) - (M k1 v4.toNatClampNeg)))) fun x1 =>
      g_X1_beats_5 M k1 k2 n x1 (v4 + (1 : Int32))) else none) else none))
def f_X1_beats (M : MM) (k1 : Nat) (k2 : Nat) : Option Int32 :=
  g_X1_beats_5 M k1 k2 FU (0 : Int32) (0 : Int32)
def f_X1_runsAway (M : MM) (v1 : Int32) : Option (Int32 × MM) :=
  (if ib v1 8 = true then
  (if ib v1 8 = true then
  (if (M 23 4) < ((M 25 v1.toNatClampNeg) - (M 24 v1.toNatClampNeg)) then
    (if ib v1 8 = true then nm (up2 M 26 v1.toNatClampNeg (9 : Int32)) fun M1 =>
    (some ((1 : Int32), M1)) else none)
  else
    (some ((0 : Int32), M))) else none) else none)
def g_X1_balanceOf_69 (M : MM) (rec33 : Int32 → Int32 → Int32 → Int32 → Int32 → Int32 → Option Int32) (v1 : Int32) (v2 : Int32) (v3 : Int32) (v4 : Int32) (v5 : Int32) (v6 : Int32) (s0 : Int32) : Option Int32 :=
  (if s0 = 0 then
    rec33 v1 v2 v3 v4 v5 (v6 + (1 : Int32))
  else
    (if ib v1 8 = true then
    (if ib v1 8 = true then
    (br (f_X10_pullOf M (M 21 v1.toNatClampNeg) (M 24 v1.toNatClampNeg) v6) fun r3 =>
    (if v2 < r3 then
      rec33 v1 v2 v3 v4 v5 (v6 + (1 : Int32))
    else
      rec33 v1 v2 v3 v4 v6 (v6 + (1 : Int32)))) else none) else none))
def g_X1_balanceOf_33 (M : MM) : Nat → Int32 → Int32 → Int32 → Int32 → Int32 → Int32 → Option Int32
  | 0, _, _, _, _, _, _ => none
  | n + 1, v1, v2, v3, v4, v5, v6 =>
    (if v4 < v6 then
      (some v5)
    else
      (if v5 = (-9 : Int32) then
        g_X1_balanceOf_69 M (g_X1_balanceOf_33 M n) v1 v2 v3 v4 v5 v6 (1 : Int32)
      else
        (if (ab32 (v5 - v3)) ≤ (ab32 (v6 - v3)) then
          g_X1_balanceOf_69 M (g_X1_balanceOf_33 M n) v1 v2 v3 v4 v5 v6 (0 : Int32)
        else
          g_X1_balanceOf_69 M (g_X1_balanceOf_33 M n) v1 v2 v3 v4 v5 v6 (1 : Int32))))
def f_X1_balanceOf (M : MM) (v1 : Int32) (v2 : Int32) : Option Int32 :=
  (if ib v1 8 = true then
  (nm (M 25 v1.toNatClampNeg) fun x1 =>
  (nm (mn32 (x1 + (M 23 3)) (9 : Int32)) fun x2 =>
  g_X1_balanceOf_33 M FU v1 v2 x1 x2 (-9 : Int32) (0 : Int32))) else none)
def f_X2_add (M : MM) (v1 : Int32) (v2 : Int32) : Option MM :=
  (if (20 : Int32) ≤ (M 65 2) then
    (some M)
  else
    (if ib (M 65 2) 20 = true then nm (up2 M 66 (M 65 2).toNatClampNeg v1) fun M1 =>
    (if ib (M1 65 2) 20 = true then nm (up2 M1 67 (M1 65 2).toNatClampNeg v2) fun M2 =>
    (nm (up2 M2 65 2 ((M2 65 2) + (1 : Int32))) fun M3 =>
    (some M3)) else none) else none))
def g_X2_repeatBatten_4 (M : MM) : Nat → Int32 → Int32 → Option Int32
  | 0, _, _ => none
  | n + 1, v1, v2 =>
    (if (M 65 2) ≤ v2 then
      (some (0 : Int32))
    else
      (if ib v2 20 = true then
      (nm (sl32 (1 : Int32) (M 66 v2.toNatClampNeg)) fun x1 =>
      (if (v1 &&& x1) = 0 then
        (nm (v1 ||| x1) fun x2 =>
        g_X2_repeatBatten_4 M n x2 (v2 + (1 : Int32)))
      else
        (some (1 : Int32)))) else none))
def f_X2_repeatBatten (M : MM) : Option Int32 :=
  g_X2_repeatBatten_4 M FU (0 : Int32) (0 : Int32)
def f_X3_forget (M : MM) : Option MM :=
  (nm (up2 M 27 1 (0 : Int32)) fun M1 =>
  (some M1))
def f_X6_takeMoved (M : MM) (k0 : Nat) (k1 : Nat) : Option MM :=
  (if cpok (0 : Int32) (0 : Int32) (8 : Int32) 8 8 = true then nm (upR M (k0 + 1) (va_cpy (M (k1 + 1)) (M (k0 + 1)) (0 : Int32).toNatClampNeg (0 : Int32).toNatClampNeg (8 : Int32).toNatClampNeg)) fun M1 =>
  (if cpok (0 : Int32) (0 : Int32) (8 : Int32) 8 8 = true then nm (upR M1 (k0 + 2) (va_cpy (M1 (k1 + 2)) (M1 (k0 + 2)) (0 : Int32).toNatClampNeg (0 : Int32).toNatClampNeg (8 : Int32).toNatClampNeg)) fun M2 =>
  (if cpok (0 : Int32) (0 : Int32) (8 : Int32) 8 8 = true then nm (upR M2 (k0 + 3) (va_cpy (M2 (k1 + 3)) (M2 (k0 + 3)) (0 : Int32).toNatClampNeg (0 : Int32).toNatClampNeg (8 : Int32).toNatClampNeg)) fun M3 =>
  (nm (up2 M3 k0 3 (M3 k1 3)) fun M4 =>
  (some M4)) else none) else none) else none)
def f_X3_remember (M : MM) : Option MM :=
  (if ib (M 27 2) 8 = true then
  (br (f_X6_takeMoved M (29 + 4 * (M 27 2).toNatClampNeg) 23) fun M3 =>
  (nm (up2 M3 27 2 (rm32 ((M3 27 2) + (1 : Int32)) (8 : Int32))) fun M5 =>
  (nm (up2 M5 27 1 (mn32 ((M5 27 1) + (1 : Int32)) (8 : Int32))) fun M6 =>
  (some M6)))) else none)
def f_X3_bringBack (M : MM) : Option MM :=
  (nm (up2 M 27 2 (rm32 (((M 27 2) + (8 : Int32)) - (1 : Int32)) (8 : Int32))) fun M1 =>
  (nm (up2 M1 27 1 ((M1 27 1) - (1 : Int32))) fun M2 =>
  (if ib (M2 27 2) 8 = true then
  (br (f_X6_takeMoved M2 23 (29 + 4 * (M2 27 2).toNatClampNeg)) fun M5 =>
  (some M5)) else none)))
def g_X4_setTried_104 (rec54 : MM → Int32 → Int32 → Int32 → Int32 → Option MM) (M : MM) (v2 : Int32) (v3 : Int32) (v4 : Int32) (v5 : Int32) (v6 : Int32) (s0 : Int32) : Option MM :=
  (if v6 = 0 then
    (if ib v5 24 = true then nm (up2 M 73 v5.toNatClampNeg (0 : Int32)) fun M10 =>
    rec54 M10 v2 v3 v4 (v5 + (1 : Int32)) else none)
  else
    (if ib v5 24 = true then nm (up2 M 73 v5.toNatClampNeg s0) fun M9 =>
    rec54 M9 v2 v3 v4 (v5 + (1 : Int32)) else none))
def g_X4_setTried_54 : Nat → MM → Int32 → Int32 → Int32 → Int32 → Option MM
  | 0, _, _, _, _, _ => none
  | n + 1, M, v2, v3, v4, v5 =>
    (if ((v2 + (1 : Int32)) * (3 : Int32)) ≤ v5 then
      (some M)
    else
      (if ib v5 24 = true then
      (nm (ab32 ((M 72 v5.toNatClampNeg) - v3)) fun x8 =>
      (if v4 ≤ (M 23 4) then
        g_X4_setTried_104 (g_X4_setTried_54 n) M v2 v3 v4 v5 x8 ((1000 : Int32) + (v4 * x8))
      else
        g_X4_setTried_104 (g_X4_setTried_54 n) M v2 v3 v4 v5 x8 (1000000 : Int32))) else none))
def f_X4_setTried (M : MM) (v2 : Int32) : Option MM :=
  (if ib v2 8 = true then
  (nm (M 26 v2.toNatClampNeg) fun x1 =>
  (br (f_X1_pull M v2) fun r2 =>
  (if ib (v2 * (3 : Int32)) 24 = true then nm (up2 M 72 (v2 * (3 : Int32)).toNatClampNeg (0 : Int32)) fun M4 =>
  (if ib ((v2 * (3 : Int32)) + (1 : Int32)) 24 = true then nm (up2 M4 72 ((v2 * (3 : Int32)) + (1 : Int32)).toNatClampNeg x1) fun M5 =>
  (if ib ((v2 * (3 : Int32)) + (2 : Int32)) 24 = true then nm (up2 M5 72 ((v2 * (3 : Int32)) + (2 : Int32)).toNatClampNeg (9 : Int32)) fun M6 =>
  (nm (v2 * (3 : Int32)) fun x7 =>
  g_X4_setTried_54 FU M6 v2 x1 r2 x7) else none) else none) else none))) else none)
def g_X4_costFrom_46 (M : MM) (v3 : Int32) (v4 : Int32) (v5 : Int32) (v6 : Int32) (v7 : Int32) (s0 : Int32) : Option Int32 :=
  (if s0 = v7 then
    (if ib (((v3 + (1 : Int32)) * (10 : Int32)) + (mn32 v4 v6)) 90 = true then
    (nm (M 74 (((v3 + (1 : Int32)) * (10 : Int32)) + (mn32 v4 v6)).toNatClampNeg) fun x3 =>
    (if ib ((v3 * (3 : Int32)) + v5) 24 = true then
    (some (mn32 (1000000 : Int32) ((M 73 ((v3 * (3 : Int32)) + v5).toNatClampNeg) + x3))) else none)) else none)
  else
    (some (1000000 : Int32)))
def f_X4_costFrom (M : MM) (v2 : Int32) (v3 : Int32) (v4 : Int32) (v5 : Int32) : Option Int32 :=
  (if ib ((v3 * (3 : Int32)) + v5) 24 = true then
  (br (f_X1_edge M v3 (M 72 ((v3 * (3 : Int32)) + v5).toNatClampNeg)) fun r1 =>
  (if ((sr32 v2 v3) &&& (1 : Int32)) = (1 : Int32) then
    (if v4 ≤ r1 then
      g_X4_costFrom_46 M v3 v4 v5 r1 (1 : Int32) (0 : Int32)
    else
      g_X4_costFrom_46 M v3 v4 v5 r1 (1 : Int32) (1 : Int32))
  else
    (if v4 ≤ r1 then
      g_X4_costFrom_46 M v3 v4 v5 r1 (0 : Int32) (0 : Int32)
    else
      g_X4_costFrom_46 M v3 v4 v5 r1 (0 : Int32) (1 : Int32)))) else none)
def g_X4_leastFrom_7 (M : MM) : Nat → Int32 → Int32 → Int32 → Int32 → Int32 → Option Int32
  | 0, _, _, _, _, _ => none
  | n + 1, v2, v3, v4, v5, v6 =>
    (if (3 : Int32) ≤ v6 then
      (some v5)
    else
      (br (f_X4_costFrom M v2 v3 v4 v6) fun r1 =>
      (nm (mn32 v5 r1) fun x3 =>
      g_X4_leastFrom_7 M n v2 v3 v4 x3 (v6 + (1 : Int32)))))
def f_X4_leastFrom (M : MM) (v2 : Int32) (v3 : Int32) (v4 : Int32) : Option Int32 :=
  g_X4_leastFrom_7 M FU v2 v3 v4 (1000000 : Int32) (0 : Int32)
def g_X4_choose_61 (rec11 : MM → Int32 → Int32 → Int32 → Option MM) (M : MM) (v2 : Int32) (v3 : Int32) (v4 : Int32) (v5 : Int32) : Option MM :=
  (if ib ((v4 * (3 : Int32)) + v5) 24 = true then
  (if ib v4 8 = true then nm (up2 M 75 v4.toNatClampNeg (M 72 ((v4 * (3 : Int32)) + v5).toNatClampNeg)) fun M4 =>
  (if ib v4 8 = true then
  (br (f_X1_edge M4 v4 (M4 75 v4.toNatClampNeg)) fun r5 =>
  (nm (mn32 v3 r5) fun x7 =>
  rec11 M4 v2 x7 (v4 + (1 : Int32)))) else none) else none) else none)
def g_X4_choose_23 (rec11 : MM → Int32 → Int32 → Int32 → Option MM) : Nat → MM → Int32 → Int32 → Int32 → Int32 → Option MM
  | 0, _, _, _, _, _ => none
  | n + 1, M, v2, v3, v4, v5 =>
    (if (2 : Int32) ≤ v5 then
      g_X4_choose_61 rec11 M v2 v3 v4 v5
    else
      (br (f_X4_costFrom M v2 v4 v3 v5) fun r2 =>
      (if ib ((v4 * (10 : Int32)) + v3) 90 = true then
      (if r2 = (M 74 ((v4 * (10 : Int32)) + v3).toNatClampNeg) then
        g_X4_choose_61 rec11 M v2 v3 v4 v5
      else
        g_X4_choose_23 rec11 n M v2 v3 v4 (v5 + (1 : Int32))) else none)))
def g_X4_choose_11 : Nat → MM → Int32 → Int32 → Int32 → Option MM
  | 0, _, _, _, _ => none
  | n + 1, M, v2, v3, v4 =>
    (if (M 20 3) ≤ v4 then
      (some M)
    else
      g_X4_choose_23 (g_X4_choose_11 n) FU M v2 v3 v4 (0 : Int32))
def f_X4_choose (M : MM) (v2 : Int32) : Option MM :=
  (nm (M 23 5) fun x1 =>
  g_X4_choose_11 FU M v2 x1 (0 : Int32))
def g_X4_find_49 (rec36 : MM → Int32 → Int32 → Option (Int32 × MM)) : Nat → MM → Int32 → Int32 → Int32 → Option (Int32 × MM)
  | 0, _, _, _, _ => none
  | n + 1, M, v2, v3, v4 =>
    (if (10 : Int32) ≤ v4 then
      rec36 M v2 (v3 + (-1 : Int32))
    else
      (br (f_X4_leastFrom M v2 v3 v4) fun r12 =>
      (if ib ((v3 * (10 : Int32)) + v4) 90 = true then nm (up2 M 74 ((v3 * (10 : Int32)) + v4).toNatClampNeg r12) fun M14 =>
      g_X4_find_49 rec36 n M14 v2 v3 (v4 + (1 : Int32)) else none)))
def g_X4_find_36 : Nat → MM → Int32 → Int32 → Option (Int32 × MM)
  | 0, _, _, _ => none
  | n + 1, M, v2, v3 =>
    (if v3 < 0 then
      (if ib (M 23 5) 90 = true then
      (nm (M 74 (M 23 5).toNatClampNeg) fun x3 =>
      (if x3 < (1000000 : Int32) then
        (nm (up2 M 71 4 (x3 / (1000 : Int32))) fun M4 =>
        (nm (up2 M4 71 5 (rm32 x3 (1000 : Int32))) fun M5 =>
        (br (f_X4_choose M5 v2) fun M7 =>
        (some ((1 : Int32), M7)))))
      else
        (some ((0 : Int32), M)))) else none)
    else
      (br (f_X4_setTried M v3) fun M10 =>
      g_X4_find_49 (g_X4_find_36 n) FU M10 v2 v3 (0 : Int32)))
def g_X4_find_2 : Nat → MM → Int32 → Int32 → Option (Int32 × MM)
  | 0, _, _, _ => none
  | n + 1, M, v2, v3 =>
    (if (10 : Int32) ≤ v3 then
      (nm ((M 20 3) - (1 : Int32)) fun x1 =>
      g_X4_find_36 FU M v2 x1)
    else
      (if ib (((M 20 3) * (10 : Int32)) + v3) 90 = true then nm (up2 M 74 (((M 20 3) * (10 : Int32)) + v3).toNatClampNeg (0 : Int32)) fun M2 =>
      g_X4_find_2 n M2 v2 (v3 + (1 : Int32)) else none))
def f_X4_find (M : MM) (v2 : Int32) : Option (Int32 × MM) :=
  g_X4_find_2 FU M v2 (0 : Int32)
def f_X5_add (M : MM) (v1 : Int32) (v2 : Int32) (v3 : Int32) : Option MM :=
  (if (8 : Int32) ≤ (M 61 3) then
    (some M)
  else
    (if ib (M 61 3) 8 = true then nm (up2 M 62 (M 61 3).toNatClampNeg v1) fun M1 =>
    (if ib (M1 61 3) 8 = true then nm (up2 M1 63 (M1 61 3).toNatClampNeg v2) fun M2 =>
    (if ib (M2 61 3) 8 = true then nm (up2 M2 64 (M2 61 3).toNatClampNeg v3) fun M3 =>
    (nm (up2 M3 61 3 ((M3 61 3) + (1 : Int32))) fun M4 =>
    (some M4)) else none) else none) else none))
def g_X5_areSo_38 (M : MM) (rec3 : Int32 → Int32 → Int32 → Option Int32) (v2 : Int32) (v3 : Int32) (v4 : Int32) (s0 : Int32) : Option Int32 :=
  (if ib v4 8 = true then
  (if ib v4 8 = true then
  (if (s0 * (M 63 v4.toNatClampNeg)) = (M 64 v4.toNatClampNeg) then
    rec3 v2 v3 (v4 + (1 : Int32))
  else
    (some (0 : Int32))) else none) else none)
def g_X5_areSo_3 (M : MM) : Nat → Int32 → Int32 → Int32 → Option Int32
  | 0, _, _, _ => none
  | n + 1, v2, v3, v4 =>
    (if (M 61 3) ≤ v4 then
      (some (1 : Int32))
    else
      (if ib v4 8 = true then
      (if (M 62 v4.toNatClampNeg) = v2 then
        g_X5_areSo_38 M (g_X5_areSo_3 M n) v2 v3 v4 v3
      else
        (if ib v4 8 = true then
        (br (f_X1_pull M (M 62 v4.toNatClampNeg)) fun r1 =>
        g_X5_areSo_38 M (g_X5_areSo_3 M n) v2 v3 v4 r1) else none)) else none))
def f_X5_areSo (M : MM) (v2 : Int32) (v3 : Int32) : Option Int32 :=
  g_X5_areSo_3 M FU v2 v3 (0 : Int32)
def f_X6_takeAll (M : MM) (k0 : Nat) (k1 : Nat) : Option MM :=
  (br (f_X6_takeMoved M k0 k1) fun M2 =>
  (nm (up2 M2 k0 4 (M2 k1 4)) fun M4 =>
  (nm (up2 M4 k0 5 (M4 k1 5)) fun M5 =>
  (some M5))))
def g_X7_renew_17 (k0 : Nat) : Nat → MM → Int32 → Int32 → Option MM
  | 0, _, _, _ => none
  | n + 1, M, v2, v3 =>
    (if v2 ≤ v3 then
      (some M)
    else
      (if ib v3 60 = true then nm (up2 M (k0 + 1) v3.toNatClampNeg (0 : Int32)) fun M4 =>
      g_X7_renew_17 k0 n M4 v2 (v3 + (1 : Int32)) else none))
def f_X7_renew (M : MM) (k0 : Nat) (v1 : Int32) (v2 : Int32) : Option MM :=
  (nm (up2 M k0 1 (1 : Int32)) fun M1 =>
  (nm (up2 M1 k0 2 v1) fun M2 =>
  (nm (up2 M2 k0 3 v2) fun M3 =>
  g_X7_renew_17 k0 FU M3 v2 (0 : Int32))))
def f_X7_set (M : MM) (k0 : Nat) (v1 : Int32) (v2 : Int32) : Option MM :=
  (if (M k0 2) = 0 then
    (if ib v1 60 = true then nm (up2 M (k0 + 1) v1.toNatClampNeg (ib8 v2)) fun M3 =>
    (some M3) else none)
  else
    (if (M k0 2) = (1 : Int32) then
      (if ib v1 60 = true then nm (up2 M (k0 + 1) v1.toNatClampNeg (ib16 v2)) fun M2 =>
      (some M2) else none)
    else
      (if ib v1 60 = true then nm (up2 M (k0 + 1) v1.toNatClampNeg v2) fun M1 =>
      (some M1) else none)))
def f_X7_hasCells (M : MM) (k0 : Nat) (v1 : Int32) (v2 : Int32) : Option Int32 :=
  (if v1 < 0 then
    (some (0 : Int32))
  else
    (if (M k0 3) < v1 then
      (some (0 : Int32))
    else
      (if ((M k0 3) - v1) < v2 then
        (some (0 : Int32))
      else
        (some (1 : Int32)))))
def f_X7_faultOf (M : MM) (k0 : Nat) (v1 : Int32) (v2 : Int32) (v3 : Int32) : Option Int32 :=
  (if (M k0 1) = 0 then
    (some (1 : Int32))
  else
    (if (M k0 2) = v1 then
      (if 0 ≤ v3 then
        (br (f_X7_hasCells M k0 v2 v3) fun r1 =>
        (if r1 = 0 then
          (some (3 : Int32))
        else
          (some (0 : Int32))))
      else
        (some (4 : Int32)))
    else
      (some (2 : Int32))))
def g_X8_bring_2 (k2 : Nat) : Nat → MM → Int32 → Int32 → Option MM
  | 0, _, _, _ => none
  | n + 1, M, v1, v3 =>
    (if (M 65 2) ≤ v3 then
      (some M)
    else
      (if ((sr32 v1 v3) &&& (1 : Int32)) = (1 : Int32) then
        (if ib v3 20 = true then
        (if ib v3 20 = true then
        (if ib (M 66 v3.toNatClampNeg) 8 = true then nm (up2 M k2 (M 66 v3.toNatClampNeg).toNatClampNeg (M 67 v3.toNatClampNeg)) fun M1 =>
        g_X8_bring_2 k2 n M1 v1 (v3 + (1 : Int32)) else none) else none) else none)
      else
        g_X8_bring_2 k2 n M v1 (v3 + (1 : Int32))))
def f_X8_bring (M : MM) (v1 : Int32) (k2 : Nat) : Option MM :=
  g_X8_bring_2 k2 FU M v1 (0 : Int32)
def g_X8_nextBehind_33 : Nat → MM → Int32 → Int32 → Int32 → Option (Int32 × MM)
  | 0, _, _, _, _ => none
  | n + 1, M, v3, v4, v5 =>
    (if (sl32 (1 : Int32) (M 65 2)) ≤ v5 then
      (some (v4, M))
    else
      (if (v5 &&& v3) = 0 then
        (if cpok (0 : Int32) (0 : Int32) (8 : Int32) 8 8 = true then nm (upR M 80 (va_cpy (M 79) (M 80) (0 : Int32).toNatClampNeg (0 : Int32).toNatClampNeg (8 : Int32).toNatClampNeg)) fun M5 =>
        (br (f_X8_bring M5 v5 80) fun M7 =>
        (br (f_X1_canBe M7 79 80 (M7 23 4)) fun r9 =>
        (if r9 = 0 then
          (nm (v4 ||| (0 : Int32)) fun x11 =>
          g_X8_nextBehind_33 n M7 v3 x11 (v5 + (1 : Int32)))
        else
          (nm (v4 ||| (sl32 (1 : Int32) v5)) fun x12 =>
          g_X8_nextBehind_33 n M7 v3 x12 (v5 + (1 : Int32)))))) else none)
      else
        g_X8_nextBehind_33 n M v3 v4 (v5 + (1 : Int32))))
def f_X8_nextBehind (M : MM) (v3 : Int32) : Option (Int32 × MM) :=
  (if cpok (0 : Int32) (0 : Int32) (8 : Int32) 8 8 = true then nm (upR M 79 (va_cpy (M 26) (M 79) (0 : Int32).toNatClampNeg (0 : Int32).toNatClampNeg (8 : Int32).toNatClampNeg)) fun M1 =>
  (br (f_X8_bring M1 v3 79) fun M3 =>
  g_X8_nextBehind_33 FU M3 v3 (0 : Int32) (1 : Int32)) else none)
def g_X8_fewestBehind_6 (M : MM) : Nat → Int32 → Int32 → Int32 → Int32 → Option Int32
  | 0, _, _, _, _ => none
  | n + 1, v1, v2, v3, v4 =>
    (if v2 < v4 then
      (some v3)
    else
      (if ib v1 32 = true then
      (if ((us32 (M 77 v1.toNatClampNeg) v4) &&& (1 : Int32)) = (1 : Int32) then
        (if ib (v1 ||| v4) 32 = true then
        (if (M 78 (v1 ||| v4).toNatClampNeg) = (-9 : Int32) then
          g_X8_fewestBehind_6 M n v1 v2 v3 (v4 + (1 : Int32))
        else
          (if ib (v1 ||| v4) 32 = true then
          (nm ((M 78 (v1 ||| v4).toNatClampNeg) + (1 : Int32)) fun x1 =>
          (if v3 = (-9 : Int32) then
            g_X8_fewestBehind_6 M n v1 v2 x1 (v4 + (1 : Int32))
          else
            (nm (mn32 v3 x1) fun x2 =>
            g_X8_fewestBehind_6 M n v1 v2 x2 (v4 + (1 : Int32))))) else none)) else none)
      else
        g_X8_fewestBehind_6 M n v1 v2 v3 (v4 + (1 : Int32))) else none))
def f_X8_fewestBehind (M : MM) (v1 : Int32) (v2 : Int32) : Option Int32 :=
  g_X8_fewestBehind_6 M FU v1 v2 (-9 : Int32) (1 : Int32)
def g_X8_readRow_37 : Nat → MM → Int32 → Int32 → Int32 → Option MM
  | 0, _, _, _, _ => none
  | n + 1, M, v3, v4, v5 =>
    (if v5 < 0 then
      (some M)
    else
      (if v3 = 0 then none else
      (if ib v5 5 = true then nm (up2 M 81 v5.toNatClampNeg (rm32 v4 v3)) fun M4 =>
      (if ib v5 5 = true then
      (if ib (M4 81 v5.toNatClampNeg) 5 = true then
      (if ib (M4 81 v5.toNatClampNeg) 5 = true then nm (up2 M4 82 (M4 81 v5.toNatClampNeg).toNatClampNeg ((M4 82 (M4 81 v5.toNatClampNeg).toNatClampNeg) ||| (sl32 (1 : Int32) v5))) fun M5 =>
      (if v3 = 0 then none else
      (nm (v4 / v3) fun x6 =>
      g_X8_readRow_37 n M5 v3 x6 (v5 + (-1 : Int32)))) else none) else none) else none) else none)))
def g_X8_readRow_2 : Nat → MM → Int32 → Int32 → Int32 → Option MM
  | 0, _, _, _, _ => none
  | n + 1, M, v1, v2, v3 =>
    (if (5 : Int32) ≤ v3 then
      (nm (mx32 (M 76 6) (1 : Int32)) fun x1 =>
      (nm (v2 - (1 : Int32)) fun x2 =>
      g_X8_readRow_37 FU M x1 v1 x2))
    else
      (if ib v3 5 = true then nm (up2 M 82 v3.toNatClampNeg (0 : Int32)) fun M3 =>
      g_X8_readRow_2 n M3 v1 v2 (v3 + (1 : Int32)) else none))
def f_X8_readRow (M : MM) (v1 : Int32) (v2 : Int32) : Option MM :=
  g_X8_readRow_2 FU M v1 v2 (0 : Int32)
def g_X8_rowCanBe_4 (M : MM) : Nat → Int32 → Int32 → Option Int32
  | 0, _, _ => none
  | n + 1, v1, v2 =>
    (if (M 76 6) ≤ v2 then
      (some (1 : Int32))
    else
      (if ib v1 32 = true then
      (if ib v2 5 = true then
      (if ((us32 (M 77 v1.toNatClampNeg) (M 82 v2.toNatClampNeg)) &&& (1 : Int32)) = 0 then
        (some (0 : Int32))
      else
        (if ib v2 5 = true then
        (nm (v1 ||| (M 82 v2.toNatClampNeg)) fun x1 =>
        g_X8_rowCanBe_4 M n x1 (v2 + (1 : Int32))) else none)) else none) else none))
def f_X8_rowCanBe (M : MM) : Option Int32 :=
  g_X8_rowCanBe_4 M FU (0 : Int32) (0 : Int32)
def g_X8_chooseRow_24 : Nat → MM → Int32 → Int32 → Int32 → Option (Int32 × MM)
  | 0, _, _, _, _ => none
  | n + 1, M, v1, v2, v3 =>
    (if v2 ≤ v3 then
      (some ((0 : Int32), M))
    else
      (br (f_X8_readRow M v3 v1) fun M3 =>
      (br (f_X8_rowCanBe M3) fun r5 =>
      (if r5 = 0 then
        g_X8_chooseRow_24 n M3 v1 v2 (v3 + (1 : Int32))
      else
        (some ((1 : Int32), M3))))))
def g_X8_chooseRow_4 : Nat → MM → Int32 → Int32 → Int32 → Option (Int32 × MM)
  | 0, _, _, _, _ => none
  | n + 1, M, v1, v2, v3 =>
    (if v1 ≤ v3 then
      g_X8_chooseRow_24 FU M v1 v2 (0 : Int32)
    else
      (nm (v2 * (M 76 6)) fun x1 =>
      g_X8_chooseRow_4 n M v1 x1 (v3 + (1 : Int32))))
def f_X8_chooseRow (M : MM) (v1 : Int32) : Option (Int32 × MM) :=
  g_X8_chooseRow_4 FU M v1 (1 : Int32) (0 : Int32)
def g_X8_find_21 : Nat → MM → Int32 → Int32 → Option (Int32 × MM)
  | 0, _, _, _ => none
  | n + 1, M, v3, v4 =>
    (if v4 < 0 then
      (if ib (0 : Int32) 32 = true then
      (nm (up2 M 76 6 (M 78 (0 : Int32).toNatClampNeg)) fun M4 =>
      (if (M4 76 6) = (-9 : Int32) then
        (some ((0 : Int32), M4))
      else
        (bi (f_X8_chooseRow M4 (M4 65 2)) fun r5 M6 =>
        (if r5 = 0 then
          (some ((0 : Int32), M6))
        else
          (some ((1 : Int32), M6)))))) else none)
    else
      (bi (f_X8_nextBehind M v4) fun r8 M9 =>
      (if ib v4 32 = true then nm (up2 M9 77 v4.toNatClampNeg r8) fun M11 =>
      (br (f_X8_fewestBehind M11 v4 v3) fun r12 =>
      (if ib v4 32 = true then nm (up2 M11 78 v4.toNatClampNeg r12) fun M14 =>
      g_X8_find_21 n M14 v3 (v4 + (-1 : Int32)) else none)) else none)))
def f_X8_find (M : MM) : Option (Int32 × MM) :=
  (nm ((sl32 (1 : Int32) (M 65 2)) - (1 : Int32)) fun x1 =>
  (if ib x1 32 = true then nm (up2 M 78 x1.toNatClampNeg (0 : Int32)) fun M2 =>
  (nm (x1 - (1 : Int32)) fun x3 =>
  g_X8_find_21 FU M2 x1 x3) else none))
def f_X10_within (M : MM) (v0 : Int32) (v1 : Int32) (v2 : Int32) : Option Int32 :=
  (if v0 < v1 then
    (some (0 : Int32))
  else
    (if v2 < v0 then
      (some (0 : Int32))
    else
      (some (1 : Int32))))
def f_X9_ofBattenGoesOn (M : MM) (v0 : Int32) (v1 : Int32) : Option Int32 :=
  (if v0 = 0 then
    (if v1 = (59 : Int32) then
      (some (1 : Int32))
    else
      (some (0 : Int32)))
  else
  (if v0 = 1 then
    (if v1 = (108 : Int32) then
      (some (1 : Int32))
    else
      (if v1 = (97 : Int32) then
        (some (1 : Int32))
      else
        (if v1 = (119 : Int32) then
          (some (1 : Int32))
        else
          (some (0 : Int32)))))
  else
  (if v0 = 5 then
    (br (f_X10_within M v1 (48 : Int32) (51 : Int32)) fun r3 =>
    (if nb r3 = true then some r3 else none))
  else
  (br (f_X10_within M v1 (48 : Int32) (57 : Int32)) fun r6 =>
  (if nb r6 = true then some r6 else none)))))
def f_X9_goesOn (M : MM) (v0 : Int32) (v1 : Int32) : Option Int32 :=
  (if v0 < (52 : Int32) then
    (if v0 = 0 then
      (if v1 = (102 : Int32) then
        (some (1 : Int32))
      else
        (some (0 : Int32)))
    else
    (if v0 = 1 then
      (br (f_X10_within M v1 (49 : Int32) (54 : Int32)) fun r2 =>
      (if nb r2 = true then some r2 else none))
    else
    (if v0 = 2 then
      (br (f_X10_within M v1 (49 : Int32) (57 : Int32)) fun r5 =>
      (if nb r5 = true then some r5 else none))
    else
    (if v0 = 3 then
      (br (f_X10_within M v1 (48 : Int32) (57 : Int32)) fun r8 =>
      (if nb r8 = true then some r8 else none))
    else
    (br (f_X9_ofBattenGoesOn M (rm32 (v0 - (4 : Int32)) (6 : Int32)) v1) fun r11 =>
    (if nb r11 = true then some r11 else none))))))
  else
    (some (0 : Int32)))
def g_X9_firstFault_46 (M : MM) (v2 : Int32) : Option Int32 :=
  (if (0 : Int32) = 0 then
    (some v2)
  else
    (some (-9 : Int32)))
def g_X9_firstFault_2 (M : MM) (k0 : Nat) : Nat → Int32 → Int32 → Int32 → Option Int32
  | 0, _, _, _ => none
  | n + 1, v1, v2, v3 =>
    (if v2 ≤ v3 then
      (if v2 < (16 : Int32) then
        g_X9_firstFault_46 M v2
      else
        (if (rm32 (v2 - (4 : Int32)) (6 : Int32)) = 0 then
          (if (1 : Int32) = 0 then
            (some v2)
          else
            (some (-9 : Int32)))
        else
          g_X9_firstFault_46 M v2))
    else
      (if ib (v1 + v3) 60 = true then
      (br (f_X9_goesOn M v3 (M k0 (v1 + v3).toNatClampNeg)) fun r1 =>
      (if r1 = 0 then
        (some v3)
      else
        g_X9_firstFault_2 M k0 n v1 v2 (v3 + (1 : Int32)))) else none))
def f_X9_firstFault (M : MM) (k0 : Nat) (v1 : Int32) (v2 : Int32) : Option Int32 :=
  g_X9_firstFault_2 M k0 FU v1 v2 (0 : Int32)
def f_X10_isSheet (M : MM) (v0 : Int32) : Option Int32 :=
  (br (f_X10_within M v0 (0 : Int32) (3 : Int32)) fun r1 =>
  (if nb r1 = true then some r1 else none))
def f_X10_isLane (M : MM) (v0 : Int32) : Option Int32 :=
  (br (f_X10_within M v0 (0 : Int32) (2 : Int32)) fun r1 =>
  (if nb r1 = true then some r1 else none))
def f_X10_faulted (M : MM) (v1 : Int32) : Option (Int32 × MM) :=
  (nm (up2 M 0 11 v1) fun M1 =>
  (some (((-10 : Int32) - v1), M1)))
def g_X10_loft_114 : Nat → MM → Int32 → Option (Int32 × MM)
  | 0, _, _ => none
  | n + 1, M, v8 =>
    (if (2 : Int32) ≤ v8 then
      (some ((M 20 3), M))
    else
      (if ib v8 2 = true then nm (up2 M 19 v8.toNatClampNeg (0 : Int32)) fun M21 =>
      g_X10_loft_114 n M21 (v8 + (1 : Int32)) else none))
def f_X10_loft (M : MM) (v1 : Int32) (v2 : Int32) (v3 : Int32) (v4 : Int32) : Option (Int32 × MM) :=
  (nm (up2 M 0 11 (0 : Int32)) fun M1 =>
  (br (f_X10_isSheet M1 v1) fun r2 =>
  (if r2 = 0 then
    (some ((-1 : Int32), M1))
  else
    (br (f_X10_isLane M1 v2) fun r4 =>
    (if r4 = 0 then
      (some ((-2 : Int32), M1))
    else
      (if ib v1 4 = true then
      (br (f_X7_faultOf M1 (2 + 2 * v1.toNatClampNeg) v2 v3 v4) fun r7 =>
      (if r7 = 0 then
        (br (f_X9_firstFault M1 ((2 + 2 * v1.toNatClampNeg) + 1) v3 v4) fun r9 =>
        (if r9 = (-9 : Int32) then
          (br (f_X1_build M1 ((2 + 2 * v1.toNatClampNeg) + 1) v3 v4) fun M12 =>
          (br (f_X3_forget M12) fun M15 =>
          (nm (up2 M15 61 3 (0 : Int32)) fun M17 =>
          g_X10_loft_114 FU M17 (0 : Int32))))
        else
          (some (((-100 : Int32) - r9), M1))))
      else
        (bi (f_X10_faulted M1 r7) fun r18 M19 =>
        (some (r18, M19))))) else none))))))
def f_X10_ofBatten (M : MM) (v1 : Int32) (v2 : Int32) : Option Int32 :=
  (br (f_X1_has M v1) fun r1 =>
  (if r1 = 0 then
    (some (-1 : Int32))
  else
    (if v2 = 0 then
      (if ib v1 8 = true then
      (some (M 21 v1.toNatClampNeg)) else none)
    else
    (if v2 = 1 then
      (if ib v1 8 = true then
      (some (M 24 v1.toNatClampNeg)) else none)
    else
    (if v2 = 2 then
      (if ib v1 8 = true then
      (some (M 25 v1.toNatClampNeg)) else none)
    else
    (if v2 = 3 then
      (if ib v1 8 = true then
      (some (M 26 v1.toNatClampNeg)) else none)
    else
    (if v2 = 4 then
      (if ib v1 8 = true then
      (some (M 22 v1.toNatClampNeg)) else none)
    else
    (if v2 = 5 then
      (br (f_X1_pull M v1) fun r8 =>
      (some r8))
    else
    (if v2 = 6 then
      (if ib v1 8 = true then
      (br (f_X1_edge M v1 (M 26 v1.toNatClampNeg)) fun r11 =>
      (some r11)) else none)
    else
    (some (-2 : Int32)))))))))))
def f_X10_seen (M : MM) : Option Int32 :=
  (if (M 20 3) = 0 then
    (some (-3 : Int32))
  else
    (br (f_X1_seenAt M 26) fun r1 =>
    (some r1)))
def f_X10_hides (M : MM) (v1 : Int32) : Option Int32 :=
  (br (f_X1_has M v1) fun r1 =>
  (if r1 = 0 then
    (some (-1 : Int32))
  else
    (br (f_X1_hiderOf M v1) fun r3 =>
    (some r3))))
def f_X10_hire (M : MM) (v1 : Int32) : Option (Int32 × MM) :=
  (br (f_X10_within M v1 (1 : Int32) (6 : Int32)) fun r1 =>
  (if r1 = 0 then
    (some ((-2 : Int32), M))
  else
    (if (M 20 3) = 0 then
      (some ((-3 : Int32), M))
    else
      (nm (M 23 4) fun x3 =>
      (nm (up2 M 23 4 v1) fun M4 =>
      (some (x3, M4)))))))
def f_X10_trim (M : MM) (v1 : Int32) : Option (Int32 × MM) :=
  (br (f_X10_within M v1 (1 : Int32) (9 : Int32)) fun r1 =>
  (if r1 = 0 then
    (some ((-2 : Int32), M))
  else
    (if (M 20 3) = 0 then
      (some ((-3 : Int32), M))
    else
      (nm (M 23 5) fun x3 =>
      (nm (up2 M 23 5 v1) fun M4 =>
      (some (x3, M4)))))))
def f_X10_isHeight (M : MM) (v0 : Int32) : Option Int32 :=
  (br (f_X10_within M v0 (0 : Int32) (9 : Int32)) fun r1 =>
  (if nb r1 = true then some r1 else none))
def g_X10_doMoves_28 : Nat → MM → Int32 → Option (Int32 × MM)
  | 0, _, _ => none
  | n + 1, M, v2 =>
    (if (M 65 2) ≤ v2 then
      (br (f_X1_canBe M 26 70 (M 23 4)) fun r2 =>
      (if r2 = 0 then
        (some ((-3 : Int32), M))
      else
        (br (f_X1_beats M 26 70) fun r4 =>
        (br (f_X3_remember M) fun M7 =>
        (if cpok (0 : Int32) (0 : Int32) (8 : Int32) 8 8 = true then nm (upR M7 26 (va_cpy (M7 70) (M7 26) (0 : Int32).toNatClampNeg (0 : Int32).toNatClampNeg (8 : Int32).toNatClampNeg)) fun M9 =>
        (some (r4, M9)) else none)))))
    else
      (if ib v2 20 = true then
      (if ib v2 20 = true then
      (if ib (M 66 v2.toNatClampNeg) 8 = true then nm (up2 M 70 (M 66 v2.toNatClampNeg).toNatClampNeg (M 67 v2.toNatClampNeg)) fun M10 =>
      g_X10_doMoves_28 n M10 (v2 + (1 : Int32)) else none) else none) else none))
def f_X10_doMoves (M : MM) : Option (Int32 × MM) :=
  (if cpok (0 : Int32) (0 : Int32) (8 : Int32) 8 8 = true then nm (upR M 70 (va_cpy (M 26) (M 70) (0 : Int32).toNatClampNeg (0 : Int32).toNatClampNeg (8 : Int32).toNatClampNeg)) fun M1 =>
  g_X10_doMoves_28 FU M1 (0 : Int32) else none)
def f_X10_fly (M : MM) (v1 : Int32) (v2 : Int32) : Option (Int32 × MM) :=
  (br (f_X1_has M v1) fun r1 =>
  (if r1 = 0 then
    (some ((-1 : Int32), M))
  else
    (br (f_X10_isHeight M v2) fun r3 =>
    (if r3 = 0 then
      (some ((-2 : Int32), M))
    else
      (nm (up2 M 65 2 (0 : Int32)) fun M5 =>
      (br (f_X2_add M5 v1 v2) fun M7 =>
      (bi (f_X10_doMoves M7) fun r9 M10 =>
      (some (r9, M10)))))))))
def g_X10_takeMoves_48 (k1 : Nat) : Nat → MM → Int32 → Int32 → Int32 → Option (Int32 × MM)
  | 0, _, _, _, _ => none
  | n + 1, M, v3, v4, v6 =>
    (if v4 ≤ v6 then
      (some ((0 : Int32), M))
    else
      (if ib (v3 + ((2 : Int32) * v6)) 60 = true then
      (nm (M (k1 + 1) (v3 + ((2 : Int32) * v6)).toNatClampNeg) fun x7 =>
      (if ib ((v3 + ((2 : Int32) * v6)) + (1 : Int32)) 60 = true then
      (nm (M (k1 + 1) ((v3 + ((2 : Int32) * v6)) + (1 : Int32)).toNatClampNeg) fun x8 =>
      (br (f_X1_has M x7) fun r9 =>
      (if r9 = 0 then
        (some ((-1 : Int32), M))
      else
        (br (f_X10_isHeight M x8) fun r11 =>
        (if r11 = 0 then
          (some ((-2 : Int32), M))
        else
          (br (f_X2_add M x7 x8) fun M14 =>
          g_X10_takeMoves_48 k1 n M14 v3 v4 (v6 + (1 : Int32)))))))) else none)) else none))
def f_X10_takeMoves (M : MM) (k1 : Nat) (v2 : Int32) (v3 : Int32) (v4 : Int32) : Option (Int32 × MM) :=
  (br (f_X7_faultOf M k1 v2 v3 ((2 : Int32) * v4)) fun r1 =>
  (if r1 = 0 then
    (if (M 20 3) = 0 then
      (some ((-3 : Int32), M))
    else
      (nm (up2 M 65 2 (0 : Int32)) fun M3 =>
      g_X10_takeMoves_48 k1 FU M3 v3 v4 (0 : Int32)))
  else
    (bi (f_X10_faulted M r1) fun r4 M5 =>
    (some (r4, M5)))))
def f_X10_cue (M : MM) (v1 : Int32) (v2 : Int32) (v3 : Int32) (v4 : Int32) : Option (Int32 × MM) :=
  (nm (up2 M 0 11 (0 : Int32)) fun M1 =>
  (br (f_X10_isSheet M1 v1) fun r2 =>
  (if r2 = 0 then
    (some ((-1 : Int32), M1))
  else
    (br (f_X10_isLane M1 v2) fun r4 =>
    (if r4 = 0 then
      (some ((-2 : Int32), M1))
    else
      (br (f_X10_within M1 v4 (0 : Int32) (8 : Int32)) fun r6 =>
      (if r6 = 0 then
        (some ((-2 : Int32), M1))
      else
        (if ib v1 4 = true then
        (bi (f_X10_takeMoves M1 (2 + 2 * v1.toNatClampNeg) v2 v3 v4) fun r9 M10 =>
        (if r9 = 0 then
          (br (f_X2_repeatBatten M10) fun r12 =>
          (if r12 = 0 then
            (bi (f_X10_doMoves M10) fun r14 M15 =>
            (some (r14, M15)))
          else
            (some ((-3 : Int32), M10))))
        else
          (some (r9, M10)))) else none))))))))
def f_X10_isDigit (M : MM) (v0 : Int32) : Option Int32 :=
  (br (f_X10_within M v0 (0 : Int32) (9 : Int32)) fun r1 =>
  (if nb r1 = true then some r1 else none))
def f_X10_hang (M : MM) (v1 : Int32) (v2 : Int32) : Option (Int32 × MM) :=
  (br (f_X1_has M v1) fun r1 =>
  (if r1 = 0 then
    (some ((-1 : Int32), M))
  else
    (br (f_X10_isDigit M v2) fun r3 =>
    (if r3 = 0 then
      (some ((-2 : Int32), M))
    else
      (if ib v1 8 = true then
      (if (M 26 v1.toNatClampNeg) = 0 then
        (br (f_X3_remember M) fun M6 =>
        (if ib v1 8 = true then nm (up2 M6 24 v1.toNatClampNeg v2) fun M8 =>
        (bi (f_X1_runsAway M8 v1) fun r9 M10 =>
        (some (r9, M10))) else none))
      else
        (some ((-3 : Int32), M))) else none)))))
def f_X10_brick (M : MM) (v1 : Int32) (v2 : Int32) : Option (Int32 × MM) :=
  (br (f_X1_has M v1) fun r1 =>
  (if r1 = 0 then
    (some ((-1 : Int32), M))
  else
    (br (f_X10_isDigit M v2) fun r3 =>
    (if r3 = 0 then
      (some ((-2 : Int32), M))
    else
      (if ib v1 8 = true then
      (nm (v2 - (M 25 v1.toNatClampNeg)) fun x5 =>
      (if ib v1 8 = true then
      (if (M 26 v1.toNatClampNeg) = 0 then
        (if x5 ≤ (M 23 3) then
          (br (f_X3_remember M) fun M7 =>
          (if ib v1 8 = true then nm (up2 M7 25 v1.toNatClampNeg v2) fun M9 =>
          (nm (up2 M9 23 3 ((M9 23 3) - x5)) fun M10 =>
          (bi (f_X1_runsAway M10 v1) fun r11 M12 =>
          (some (r11, M12)))) else none))
        else
          (some ((-3 : Int32), M)))
      else
        (some ((-3 : Int32), M))) else none)) else none)))))
def f_X10_undo (M : MM) : Option (Int32 × MM) :=
  (if (M 27 1) = 0 then
    (some ((-3 : Int32), M))
  else
    (br (f_X3_bringBack M) fun M2 =>
    (some ((M2 27 1), M2))))
def f_X10_isImage (M : MM) (v0 : Int32) : Option Int32 :=
  (br (f_X10_within M v0 (0 : Int32) (1 : Int32)) fun r1 =>
  (if nb r1 = true then some r1 else none))
def g_X10_keep_49 : Nat → MM → Int32 → Int32 → Option (Int32 × MM)
  | 0, _, _, _ => none
  | n + 1, M, v2, v3 =>
    (if (2 : Int32) ≤ v3 then
      (some (v2, M))
    else
      (if ib v3 2 = true then
      (if (M 19 v3.toNatClampNeg) = 0 then
        (nm (v2 + (0 : Int32)) fun x8 =>
        g_X10_keep_49 n M x8 (v3 + (1 : Int32)))
      else
        (nm (v2 + (1 : Int32)) fun x9 =>
        g_X10_keep_49 n M x9 (v3 + (1 : Int32)))) else none))
def f_X10_keep (M : MM) (v1 : Int32) : Option (Int32 × MM) :=
  (br (f_X10_isImage M v1) fun r1 =>
  (if r1 = 0 then
    (some ((-1 : Int32), M))
  else
    (if (M 20 3) = 0 then
      (some ((-3 : Int32), M))
    else
      (if ib v1 2 = true then
      (br (f_X6_takeAll M (11 + 4 * v1.toNatClampNeg) 23) fun M5 =>
      (if ib v1 2 = true then nm (up2 M5 19 v1.toNatClampNeg (1 : Int32)) fun M7 =>
      g_X10_keep_49 FU M7 (0 : Int32) (0 : Int32) else none)) else none))))
def f_X10_restore (M : MM) (v1 : Int32) : Option (Int32 × MM) :=
  (br (f_X10_isImage M v1) fun r1 =>
  (if r1 = 0 then
    (some ((-1 : Int32), M))
  else
    (if ib v1 2 = true then
    (if (M 19 v1.toNatClampNeg) = 0 then
      (some ((-3 : Int32), M))
    else
      (if ib v1 2 = true then
      (br (f_X6_takeAll M 23 (11 + 4 * v1.toNatClampNeg)) fun M5 =>
      (br (f_X3_forget M5) fun M8 =>
      (some ((M8 23 3), M8)))) else none)) else none)))
def g_X10_act_61 (M : MM) (v1 : Int32) (v2 : Int32) (v3 : Int32) (v4 : Int32) (v5 : Int32) (v6 : Int32) : Option (Int32 × MM) :=
  (if ib v1 4 = true then
  (bi (f_X10_takeMoves M (2 + 2 * v1.toNatClampNeg) v2 v3 v4) fun r13 M14 =>
  (if r13 = 0 then
    (br (f_X0_run M14 (M14 23 4)) fun M17 =>
    (if v5 = (1 : Int32) then
      (some ((M17 68 4), M17))
    else
      (if (M17 68 4) = (-9 : Int32) then
        (if v6 = 0 then
          (if v5 = 0 then
            (some ((M17 68 2), M17))
          else
            (if v5 = (2 : Int32) then
              (some ((M17 68 3), M17))
            else
              (br (f_X1_seenAt M17 70) fun r19 =>
              (some (r19, M17)))))
        else
          (br (f_X1_has M17 (v5 - (10 : Int32))) fun r21 =>
          (if r21 = 0 then
            (some ((-9 : Int32), M17))
          else
            (if ib (v5 - (10 : Int32)) 8 = true then
            (some ((M17 70 (v5 - (10 : Int32)).toNatClampNeg), M17)) else none))))
      else
        (some (((-100 : Int32) - (M17 68 4)), M17)))))
  else
    (some (r13, M14)))) else none)
def f_X10_act (M : MM) (v1 : Int32) (v2 : Int32) (v3 : Int32) (v4 : Int32) (v5 : Int32) : Option (Int32 × MM) :=
  (nm (up2 M 0 11 (0 : Int32)) fun M1 =>
  (br (f_X10_isSheet M1 v1) fun r2 =>
  (if r2 = 0 then
    (some ((-1 : Int32), M1))
  else
    (br (f_X10_within M1 v5 (10 : Int32) (17 : Int32)) fun r4 =>
    (br (f_X10_isLane M1 v2) fun r6 =>
    (if r6 = 0 then
      (some ((-2 : Int32), M1))
    else
      (br (f_X10_within M1 v4 (0 : Int32) (20 : Int32)) fun r8 =>
      (if r8 = 0 then
        (some ((-2 : Int32), M1))
      else
        (if r4 = 0 then
          (br (f_X10_within M1 v5 (0 : Int32) (3 : Int32)) fun r10 =>
          (if r10 = 0 then
            (some ((-2 : Int32), M1))
          else
            g_X10_act_61 M1 v1 v2 v3 v4 v5 r4))
        else
          g_X10_act_61 M1 v1 v2 v3 v4 v5 r4)))))))))
def f_X10_picture (M : MM) (v1 : Int32) (v2 : Int32) : Option (Int32 × MM) :=
  (if (M 20 3) = 0 then
    (some ((-3 : Int32), M))
  else
    (br (f_X10_within M v1 (0 : Int32) ((sl32 (1 : Int32) (M 20 3)) - (1 : Int32))) fun r1 =>
    (if r1 = 0 then
      (some ((-2 : Int32), M))
    else
      (br (f_X10_within M v2 (-2 : Int32) (7 : Int32)) fun r3 =>
      (if r3 = 0 then
        (some ((-2 : Int32), M))
      else
        (if (M 20 3) ≤ v2 then
          (some ((-9 : Int32), M))
        else
          (bi (f_X4_find M v1) fun r5 M6 =>
          (if r5 = 0 then
            (some ((-9 : Int32), M6))
          else
            (if v2 = (-2 : Int32) then
              (some ((M6 71 4), M6))
            else
              (if v2 = (-1 : Int32) then
                (some ((M6 71 5), M6))
              else
                (if ib v2 8 = true then
                (some ((M6 75 v2.toNatClampNeg), M6)) else none)))))))))))
def f_X10_split (M : MM) (v1 : Int32) (v2 : Int32) (v3 : Int32) (v4 : Int32) (v5 : Int32) : Option (Int32 × MM) :=
  (nm (up2 M 0 11 (0 : Int32)) fun M1 =>
  (br (f_X10_isSheet M1 v1) fun r2 =>
  (if r2 = 0 then
    (some ((-1 : Int32), M1))
  else
    (br (f_X10_isLane M1 v2) fun r4 =>
    (if r4 = 0 then
      (some ((-2 : Int32), M1))
    else
      (br (f_X10_within M1 v4 (0 : Int32) (5 : Int32)) fun r6 =>
      (if r6 = 0 then
        (some ((-2 : Int32), M1))
      else
        (br (f_X10_within M1 v5 (-1 : Int32) (4 : Int32)) fun r8 =>
        (if r8 = 0 then
          (some ((-2 : Int32), M1))
        else
          (if ib v1 4 = true then
          (bi (f_X10_takeMoves M1 (2 + 2 * v1.toNatClampNeg) v2 v3 v4) fun r11 M12 =>
          (if r11 = 0 then
            (br (f_X2_repeatBatten M12) fun r14 =>
            (if r14 = 0 then
              (if v4 ≤ v5 then
                (some ((-9 : Int32), M12))
              else
                (bi (f_X8_find M12) fun r16 M17 =>
                (if r16 = 0 then
                  (some ((-9 : Int32), M17))
                else
                  (if v5 = (-1 : Int32) then
                    (some ((M17 76 6), M17))
                  else
                    (if ib v5 5 = true then
                    (some ((M17 81 v5.toNatClampNeg), M17)) else none)))))
            else
              (some ((-3 : Int32), M12))))
          else
            (some (r11, M12)))) else none))))))))))
def g_X10_crew_62 : Nat → MM → Int32 → Option (Int32 × MM)
  | 0, _, _ => none
  | n + 1, M, v6 =>
    (if (6 : Int32) < v6 then
      (some ((-9 : Int32), M))
    else
      (br (f_X0_run M v6) fun M13 =>
      (if (M13 68 4) = (-9 : Int32) then
        (some (v6, M13))
      else
        g_X10_crew_62 n M13 (v6 + (1 : Int32)))))
def f_X10_crew (M : MM) (v1 : Int32) (v2 : Int32) (v3 : Int32) (v4 : Int32) : Option (Int32 × MM) :=
  (nm (up2 M 0 11 (0 : Int32)) fun M1 =>
  (br (f_X10_isSheet M1 v1) fun r2 =>
  (if r2 = 0 then
    (some ((-1 : Int32), M1))
  else
    (br (f_X10_isLane M1 v2) fun r4 =>
    (if r4 = 0 then
      (some ((-2 : Int32), M1))
    else
      (br (f_X10_within M1 v4 (0 : Int32) (20 : Int32)) fun r6 =>
      (if r6 = 0 then
        (some ((-2 : Int32), M1))
      else
        (if ib v1 4 = true then
        (bi (f_X10_takeMoves M1 (2 + 2 * v1.toNatClampNeg) v2 v3 v4) fun r9 M10 =>
        (if r9 = 0 then
          g_X10_crew_62 FU M10 (1 : Int32)
        else
          (some (r9, M10)))) else none))))))))
def f_X10_balance (M : MM) (v1 : Int32) (v2 : Int32) : Option Int32 :=
  (br (f_X1_has M v1) fun r1 =>
  (if r1 = 0 then
    (some (-1 : Int32))
  else
    (br (f_X10_isDigit M v2) fun r3 =>
    (if r3 = 0 then
      (some (-2 : Int32))
    else
      (br (f_X1_balanceOf M v1 v2) fun r5 =>
      (some r5))))))
def f_X10_reading (M : MM) (v1 : Int32) (v2 : Int32) (v3 : Int32) : Option (Int32 × MM) :=
  (br (f_X1_has M v1) fun r1 =>
  (if r1 = 0 then
    (some ((-1 : Int32), M))
  else
    (br (f_X10_within M v2 (1 : Int32) (9 : Int32)) fun r3 =>
    (if r3 = 0 then
      (some ((-2 : Int32), M))
    else
      (br (f_X10_within M v3 (0 : Int32) (81 : Int32)) fun r5 =>
      (if r5 = 0 then
        (some ((-2 : Int32), M))
      else
        (if (M 61 3) < (8 : Int32) then
          (nm (M 61 3) fun x7 =>
          (br (f_X5_add M v1 v2 v3) fun M9 =>
          (some (x7, M9))))
        else
          (some ((-4 : Int32), M)))))))))
def f_X10_back (M : MM) (v1 : Int32) : Option (Int32 × MM) :=
  (br (f_X10_within M v1 (0 : Int32) (M 61 3)) fun r1 =>
  (if r1 = 0 then
    (some ((-2 : Int32), M))
  else
    (nm (up2 M 61 3 ((M 61 3) - v1)) fun M3 =>
    (some ((M3 61 3), M3)))))
def g_X10_loads_17 (M : MM) : Nat → Int32 → Int32 → Int32 → Option Int32
  | 0, _, _, _ => none
  | n + 1, v1, v2, v3 =>
    (if (9 : Int32) < v3 then
      (some v2)
    else
      (if ib v1 8 = true then
      (if ib v1 8 = true then
      (br (f_X10_pullOf M (M 21 v1.toNatClampNeg) v3 (M 25 v1.toNatClampNeg)) fun r3 =>
      (br (f_X5_areSo M v1 r3) fun r5 =>
      (if r5 = 0 then
        (nm (v2 ||| (0 : Int32)) fun x7 =>
        g_X10_loads_17 M n v1 x7 (v3 + (1 : Int32)))
      else
        (nm (v2 ||| (sl32 (1 : Int32) v3)) fun x8 =>
        g_X10_loads_17 M n v1 x8 (v3 + (1 : Int32)))))) else none) else none))
def f_X10_loads (M : MM) (v1 : Int32) : Option Int32 :=
  (br (f_X1_has M v1) fun r1 =>
  (if r1 = 0 then
    (some (-1 : Int32))
  else
    g_X10_loads_17 M FU v1 (0 : Int32) (0 : Int32)))
def g_X10_weights_17 (M : MM) : Nat → Int32 → Int32 → Int32 → Option Int32
  | 0, _, _, _ => none
  | n + 1, v1, v2, v3 =>
    (if (9 : Int32) < v3 then
      (some v2)
    else
      (if ib v1 8 = true then
      (if ib v1 8 = true then
      (br (f_X10_pullOf M (M 21 v1.toNatClampNeg) (M 24 v1.toNatClampNeg) v3) fun r3 =>
      (br (f_X5_areSo M v1 r3) fun r5 =>
      (if r5 = 0 then
        (nm (v2 ||| (0 : Int32)) fun x7 =>
        g_X10_weights_17 M n v1 x7 (v3 + (1 : Int32)))
      else
        (nm (v2 ||| (sl32 (1 : Int32) v3)) fun x8 =>
        g_X10_weights_17 M n v1 x8 (v3 + (1 : Int32)))))) else none) else none))
def f_X10_weights (M : MM) (v1 : Int32) : Option Int32 :=
  (br (f_X1_has M v1) fun r1 =>
  (if r1 = 0 then
    (some (-1 : Int32))
  else
    g_X10_weights_17 M FU v1 (0 : Int32) (0 : Int32)))
def g_X10_kinds_17 (M : MM) : Nat → Int32 → Int32 → Int32 → Option Int32
  | 0, _, _, _ => none
  | n + 1, v1, v2, v3 =>
    (if (2 : Int32) < v3 then
      (some v2)
    else
      (if ib v1 8 = true then
      (if ib v1 8 = true then
      (br (f_X10_pullOf M v3 (M 24 v1.toNatClampNeg) (M 25 v1.toNatClampNeg)) fun r3 =>
      (br (f_X5_areSo M v1 r3) fun r5 =>
      (if r5 = 0 then
        (nm (v2 ||| (0 : Int32)) fun x7 =>
        g_X10_kinds_17 M n v1 x7 (v3 + (1 : Int32)))
      else
        (nm (v2 ||| (sl32 (1 : Int32) v3)) fun x8 =>
        g_X10_kinds_17 M n v1 x8 (v3 + (1 : Int32)))))) else none) else none))
def f_X10_kinds (M : MM) (v1 : Int32) : Option Int32 :=
  (br (f_X1_has M v1) fun r1 =>
  (if r1 = 0 then
    (some (-1 : Int32))
  else
    g_X10_kinds_17 M FU v1 (0 : Int32) (0 : Int32)))
def f_X10_odds (M : MM) (v1 : Int32) (v2 : Int32) : Option Int64 :=
  (br (f_X1_has M v1) fun r1 =>
  (if r1 = 0 then
    (some (-9223372036854775808 : Int64))
  else
    (br (f_X10_within M v2 (0 : Int32) (1 : Int32)) fun r3 =>
    (if r3 = 0 then
      (some (-9223372036854775808 : Int64))
    else
      (br (f_X1_isSeenAmongUp M v1) fun r5 =>
      (if v2 = 0 then
        (some (1 : Int64))
      else
        (if r5 = 0 then
          (some (sl64 (1 : Int64) (v1 + (1 : Int32))))
        else
          (some (sl64 (1 : Int64) v1)))))))))
def f_X10_sheet (M : MM) (v1 : Int32) (v2 : Int32) (v3 : Int32) : Option (Int32 × MM) :=
  (nm (up2 M 0 11 (0 : Int32)) fun M1 =>
  (br (f_X10_isSheet M1 v1) fun r2 =>
  (if r2 = 0 then
    (some ((-1 : Int32), M1))
  else
    (br (f_X10_isLane M1 v2) fun r4 =>
    (if r4 = 0 then
      (some ((-2 : Int32), M1))
    else
      (if v3 ≤ (60 : Int32) then
        (if 0 ≤ v3 then
          (if ib v1 4 = true then
          (br (f_X7_renew M1 (2 + 2 * v1.toNatClampNeg) v2 v3) fun M8 =>
          (some ((1 : Int32), M8))) else none)
        else
          (bi (f_X10_faulted M1 (4 : Int32)) fun r10 M11 =>
          (some (r10, M11))))
      else
        (some ((-2 : Int32), M1))))))))
def f_X10_lose (M : MM) (v1 : Int32) : Option (Int32 × MM) :=
  (br (f_X10_isSheet M v1) fun r1 =>
  (if r1 = 0 then
    (some ((-1 : Int32), M))
  else
    (if ib v1 4 = true then
    (nm (M (2 + 2 * v1.toNatClampNeg) 1) fun x4 =>
    (if ib v1 4 = true then
    (nm (up2 M (2 + 2 * v1.toNatClampNeg) 1 (0 : Int32)) fun M6 =>
    (if x4 = 0 then
      (some ((0 : Int32), M6))
    else
      (some ((1 : Int32), M6)))) else none)) else none)))
def f_X10_put (M : MM) (v1 : Int32) (v2 : Int32) (v3 : Int32) : Option (Int32 × MM) :=
  (nm (up2 M 0 11 (0 : Int32)) fun M1 =>
  (br (f_X10_isSheet M1 v1) fun r2 =>
  (if r2 = 0 then
    (some ((-1 : Int32), M1))
  else
    (if ib v1 4 = true then
    (if ib v1 4 = true then
    (br (f_X7_faultOf M1 (2 + 2 * v1.toNatClampNeg) (M1 (2 + 2 * v1.toNatClampNeg) 2) v2 (1 : Int32)) fun r6 =>
    (if r6 = 0 then
      (if ib v1 4 = true then
      (br (f_X7_set M1 (2 + 2 * v1.toNatClampNeg) v2 v3) fun M10 =>
      (some ((1 : Int32), M10))) else none)
    else
      (bi (f_X10_faulted M1 r6) fun r12 M13 =>
      (some (r12, M13))))) else none) else none))))
def f_X10_cell (M : MM) (v1 : Int32) (v2 : Int32) (v3 : Int32) : Option (Int64 × MM) :=
  (nm (up2 M 0 11 (0 : Int32)) fun M1 =>
  (br (f_X10_isSheet M1 v1) fun r2 =>
  (if r2 = 0 then
    (some ((-9223372036854775808 : Int64), M1))
  else
    (br (f_X10_isLane M1 v3) fun r4 =>
    (if r4 = 0 then
      (some ((-9223372036854775808 : Int64), M1))
    else
      (if ib v1 4 = true then
      (br (f_X7_faultOf M1 (2 + 2 * v1.toNatClampNeg) v3 v2 (1 : Int32)) fun r7 =>
      (if r7 = 0 then
        (if ib v1 4 = true then
        (if ib v2 60 = true then
        (some (((M1 ((2 + 2 * v1.toNatClampNeg) + 1) v2.toNatClampNeg)).toInt64, M1)) else none) else none)
      else
        (nm (up2 M1 0 11 r7) fun M10 =>
        (some ((-9223372036854775808 : Int64), M10))))) else none))))))
def f_X10_copy (M : MM) (v1 : Int32) (v2 : Int32) (v3 : Int32) (v4 : Int32) (v5 : Int32) : Option (Int32 × MM) :=
  (nm (up2 M 0 11 (0 : Int32)) fun M1 =>
  (br (f_X10_isSheet M1 v1) fun r2 =>
  (if r2 = 0 then
    (some ((-1 : Int32), M1))
  else
    (br (f_X10_isSheet M1 v3) fun r4 =>
    (if r4 = 0 then
      (some ((-1 : Int32), M1))
    else
      (if ib v1 4 = true then
      (if ib v3 4 = true then
      (if (M1 (2 + 2 * v1.toNatClampNeg) 1) = 0 then
        (bi (f_X10_faulted M1 (1 : Int32)) fun r8 M9 =>
        (some (r8, M9)))
      else
        (if (M1 (2 + 2 * v3.toNatClampNeg) 1) = 0 then
          (bi (f_X10_faulted M1 (1 : Int32)) fun r28 M29 =>
          (some (r28, M29)))
        else
          (if (M1 (2 + 2 * v1.toNatClampNeg) 2) = (M1 (2 + 2 * v3.toNatClampNeg) 2) then
            (if v5 < 0 then
              (bi (f_X10_faulted M1 (3 : Int32)) fun r11 M12 =>
              (some (r11, M12)))
            else
              (br (f_X7_hasCells M1 (2 + 2 * v1.toNatClampNeg) v2 v5) fun r14 =>
              (if r14 = 0 then
                (bi (f_X10_faulted M1 (3 : Int32)) fun r16 M17 =>
                (some (r16, M17)))
              else
                (br (f_X7_hasCells M1 (2 + 2 * v3.toNatClampNeg) v4 v5) fun r19 =>
                (if r19 = 0 then
                  (bi (f_X10_faulted M1 (3 : Int32)) fun r22 M23 =>
                  (some (r22, M23)))
                else
                  (if cpok v2 v4 v5 60 60 = true then nm (upR M1 ((2 + 2 * v3.toNatClampNeg) + 1) (va_cpy (M1 ((2 + 2 * v1.toNatClampNeg) + 1)) (M1 ((2 + 2 * v3.toNatClampNeg) + 1)) v2.toNatClampNeg v4.toNatClampNeg v5.toNatClampNeg)) fun M21 =>
                  (some (v5, M21)) else none))))))
          else
            (bi (f_X10_faulted M1 (2 : Int32)) fun r25 M26 =>
            (some (r25, M26)))))) else none) else none))))))
def f_X10_leave (M : MM) (v1 : Int32) : Option MM :=
  (nm (up2 M 0 10 (((31 : Int32) * (M 0 10)) + v1)) fun M1 =>
  (some M1))
def f_X10_lineTells (M : MM) (v1 : Int32) : Option (Int32 × MM) :=
  (br (f_X10_leave M (1 : Int32)) fun M2 =>
  (some (v1, M2)))
def f_X10_arborTells (M : MM) (v1 : Int32) : Option (Int32 × MM) :=
  (br (f_X10_leave M (2 : Int32)) fun M2 =>
  (bi (f_X10_lineTells M2 v1) fun r4 M5 =>
  (some ((r4 + (100 : Int32)), M5))))
def f_X10_winchTells (M : MM) (v1 : Int32) : Option (Int32 × MM) :=
  (br (f_X10_leave M (3 : Int32)) fun M2 =>
  (bi (f_X10_arborTells M2 v1) fun r4 M5 =>
  (bi (f_X10_lineTells M5 v1) fun r7 M8 =>
  (some ((r4 + r7), M8)))))
def f_X10_tell (M : MM) (v1 : Int32) : Option (Int32 × MM) :=
  (br (f_X1_has M v1) fun r1 =>
  (if r1 = 0 then
    (some ((-1 : Int32), M))
  else
    (if ib v1 8 = true then
    (nm (M 24 v1.toNatClampNeg) fun x3 =>
    (if ib v1 8 = true then
    (if (M 21 v1.toNatClampNeg) = 0 then
      (bi (f_X10_lineTells M x3) fun r4 M5 =>
      (some (r4, M5)))
    else
    (if (M 21 v1.toNatClampNeg) = 1 then
      (bi (f_X10_arborTells M x3) fun r8 M9 =>
      (some (r8, M9)))
    else
    (bi (f_X10_winchTells M x3) fun r12 M13 =>
    (some (r12, M13))))) else none)) else none)))
def f_X10_call (M : MM) (v1 : Int32) : Option (Int32 × MM) :=
  (br (f_X1_has M v1) fun r1 =>
  (if r1 = 0 then
    (some ((-1 : Int32), M))
  else
    (if ib v1 8 = true then
    (if (M 21 v1.toNatClampNeg) = (2 : Int32) then
      (br (f_X10_leave M (5 : Int32)) fun M7 =>
      (some ((40 : Int32), M7)))
    else
      (br (f_X10_leave M (4 : Int32)) fun M4 =>
      (some (v1, M4)))) else none)))
def f_X10_as (M : MM) (v1 : Int32) (v2 : Int32) : Option (Int32 × MM) :=
  (nm (up2 M 0 11 (0 : Int32)) fun M1 =>
  (br (f_X1_has M1 v1) fun r2 =>
  (if r2 = 0 then
    (some ((-1 : Int32), M1))
  else
    (br (f_X10_within M1 v2 (0 : Int32) (2 : Int32)) fun r4 =>
    (if r4 = 0 then
      (some ((-2 : Int32), M1))
    else
      (if ib v1 8 = true then
      (if v2 ≤ (M1 21 v1.toNatClampNeg) then
        (some ((1 : Int32), M1))
      else
        (bi (f_X10_faulted M1 (2 : Int32)) fun r6 M7 =>
        (some (r6, M7)))) else none))))))
def f_X10_trace (M : MM) : Option Int32 :=
  (some (M 0 10))
def f_X10_fault (M : MM) : Option Int32 :=
  (some (M 0 11))
def f_X10_many (M : MM) (v1 : Int32) : Option Int32 :=
  (if v1 = 0 then
    (some (M 20 3))
  else
  (if v1 = 1 then
    (some (M 23 4))
  else
  (if v1 = 2 then
    (some (M 23 5))
  else
  (if v1 = 3 then
    (some (M 23 3))
  else
  (if v1 = 4 then
    (some (M 27 1))
  else
  (if v1 = 5 then
    (some (M 61 3))
  else
  (some (-2 : Int32))))))))
def f_X11_fails (M : MM) (v1 : Int32) : Option (Int32 × MM) :=
  (nm (up2 M 83 0 v1) fun M1 =>
  (some (((-10 : Int32) - v1), M1)))
def f_X11_lost (M : MM) (v1 : Int32) : Option (Int64 × MM) :=
  (nm (up2 M 83 0 v1) fun M1 =>
  (some ((-9223372036854775808 : Int64), M1)))
def f_X11_within (M : MM) (v0 : Int32) (v1 : Int32) (v2 : Int32) : Option Int32 :=
  (if v0 < v1 then
    (some (0 : Int32))
  else
    (if v2 < v0 then
      (some (0 : Int32))
    else
      (some (1 : Int32))))
def f_X11_isSheet (M : MM) (v0 : Int32) : Option Int32 :=
  (br (f_X11_within M v0 (0 : Int32) (3 : Int32)) fun r1 =>
  (if nb r1 = true then some r1 else none))
def f_X11_isSort (M : MM) (v0 : Int32) : Option Int32 :=
  (br (f_X11_within M v0 (0 : Int32) (2 : Int32)) fun r1 =>
  (if nb r1 = true then some r1 else none))
def g_X11_against_23 (M : MM) (v1 : Int32) (v3 : Int32) (v4 : Int32) : Option Int32 :=
  (if ib v1 4 = true then
  (if (M 84 v1.toNatClampNeg) = (-9 : Int32) then
    (some (1 : Int32))
  else
    (if 0 ≤ v4 then
      (if v3 < 0 then
        (some (3 : Int32))
      else
        (if ib v1 4 = true then
        (if (M 85 v1.toNatClampNeg) < v3 then
          (some (3 : Int32))
        else
          (if ib v1 4 = true then
          (if v4 ≤ ((M 85 v1.toNatClampNeg) - v3) then
            (some (0 : Int32))
          else
            (some (3 : Int32))) else none)) else none))
    else
      (some (4 : Int32)))) else none)
def f_X11_against (M : MM) (v1 : Int32) (v2 : Int32) (v3 : Int32) (v4 : Int32) : Option Int32 :=
  (if ib v1 4 = true then
  (if (M 84 v1.toNatClampNeg) = (-9 : Int32) then
    g_X11_against_23 M v1 v3 v4
  else
    (if ib v1 4 = true then
    (if (M 84 v1.toNatClampNeg) = v2 then
      g_X11_against_23 M v1 v3 v4
    else
      (some (2 : Int32))) else none)) else none)
def f_X11_isBatten (M : MM) (v1 : Int32) : Option Int32 :=
  (if v1 < 0 then
    (some (0 : Int32))
  else
    (if (M 83 5) ≤ v1 then
      (some (0 : Int32))
    else
      (some (1 : Int32))))
def f_X11_isDigit (M : MM) (v0 : Int32) : Option Int32 :=
  (br (f_X11_within M v0 (0 : Int32) (9 : Int32)) fun r1 =>
  (if nb r1 = true then some r1 else none))
def f_X11_digit (M : MM) (v1 : Int32) (v2 : Int32) (v3 : Int32) : Option (Int32 × MM) :=
  (if v1 ≤ (M 83 14) then
    (some ((-9 : Int32), M))
  else
    (if ib (M 83 14) 240 = true then
    (br (f_X11_within M (M 86 (M 83 14).toNatClampNeg) ((48 : Int32) + v2) ((48 : Int32) + v3)) fun r1 =>
    (if r1 = 0 then
      (some ((-9 : Int32), M))
    else
      (nm (up2 M 83 14 ((M 83 14) + (1 : Int32))) fun M3 =>
      (if ib ((M3 83 14) - (1 : Int32)) 240 = true then
      (some (((M3 86 ((M3 83 14) - (1 : Int32)).toNatClampNeg) - (48 : Int32)), M3)) else none)))) else none))
def f_X11_isSign (M : MM) (v1 : Int32) (v2 : Int32) : Option (Int32 × MM) :=
  (if v1 ≤ (M 83 14) then
    (some ((0 : Int32), M))
  else
    (if ib (M 83 14) 240 = true then
    (if (M 86 (M 83 14).toNatClampNeg) = v2 then
      (nm (up2 M 83 14 ((M 83 14) + (1 : Int32))) fun M1 =>
      (some ((1 : Int32), M1)))
    else
      (some ((0 : Int32), M))) else none))
def g_X11_readBatten_122 (rec93 : MM → Int32 → Int32 → Int32 → Option (Int32 × MM)) (M : MM) (v1 : Int32) (v3 : Int32) (v4 : Int32) (s0 : Int32) (s1 : Int32) (s2 : Int32) (s4 : Int32) : Option (Int32 × MM) :=
  (bi (f_X11_digit M s2 s1 s0) fun r5 M6 =>
  (if ib s4 40 = true then nm (up2 M6 92 s4.toNatClampNeg r5) fun M8 =>
  (if ib (v3 + v4) 40 = true then
  (if (M8 92 (v3 + v4).toNatClampNeg) = (-9 : Int32) then
    (some ((0 : Int32), M8))
  else
    rec93 M8 v1 v3 (v4 + (1 : Int32))) else none) else none))
def g_X11_readBatten_93 : Nat → MM → Int32 → Int32 → Int32 → Option (Int32 × MM)
  | 0, _, _, _, _ => none
  | n + 1, M, v1, v3, v4 =>
    (if (5 : Int32) ≤ v4 then
      (nm (up2 M 83 18 ((M 83 18) + (1 : Int32))) fun M4 =>
      (some ((1 : Int32), M4)))
    else
      (if v4 = (4 : Int32) then
        g_X11_readBatten_122 (g_X11_readBatten_93 n) M v1 v3 v4 (3 : Int32) (0 : Int32) v1 (v3 + v4)
      else
        g_X11_readBatten_122 (g_X11_readBatten_93 n) M v1 v3 v4 (9 : Int32) (0 : Int32) v1 (v3 + v4)))
def g_X11_readBatten_66 (M : MM) (v1 : Int32) (v3 : Int32) (s0 : Int32) (s1 : Int32) : Option (Int32 × MM) :=
  (if ib s1 40 = true then nm (up2 M 92 s1.toNatClampNeg s0) fun M2 =>
  (if ib v3 40 = true then
  (if (M2 92 v3.toNatClampNeg) = (-9 : Int32) then
    (some ((0 : Int32), M2))
  else
    (nm (up2 M2 83 14 ((M2 83 14) + (1 : Int32))) fun M3 =>
    g_X11_readBatten_93 FU M3 v1 v3 (1 : Int32))) else none) else none)
def g_X11_readBatten_21 (M : MM) (v1 : Int32) (s0 : Int32) : Option (Int32 × MM) :=
  (nm ((5 : Int32) * (M 83 18)) fun x1 =>
  (if s0 = (108 : Int32) then
    g_X11_readBatten_66 M v1 x1 (0 : Int32) x1
  else
    (if s0 = (97 : Int32) then
      g_X11_readBatten_66 M v1 x1 (1 : Int32) x1
    else
      (if s0 = (119 : Int32) then
        g_X11_readBatten_66 M v1 x1 (2 : Int32) x1
      else
        g_X11_readBatten_66 M v1 x1 (-9 : Int32) x1))))
def f_X11_readBatten (M : MM) (v1 : Int32) : Option (Int32 × MM) :=
  (if v1 ≤ (M 83 14) then
    g_X11_readBatten_21 M v1 (0 : Int32)
  else
    (if ib (M 83 14) 240 = true then
    g_X11_readBatten_21 M v1 (M 86 (M 83 14).toNatClampNeg) else none))
def g_X11_readLoft_111 (rec86 : MM → Int32 → Option (Int32 × MM)) (M : MM) (v1 : Int32) : Option (Int32 × MM) :=
  (bi (f_X11_isSign M v1 (59 : Int32)) fun r17 M18 =>
  (if r17 = 0 then
    (some ((0 : Int32), M18))
  else
    (bi (f_X11_readBatten M18 v1) fun r20 M21 =>
    (if r20 = 0 then
      (some ((0 : Int32), M21))
    else
      rec86 M21 v1))))
def g_X11_readLoft_131 (M : MM) (v1 : Int32) : Option (Int32 × MM) :=
  (if (M 83 14) = v1 then
    (some ((1 : Int32), M))
  else
    (some ((0 : Int32), M)))
def g_X11_readLoft_86 : Nat → MM → Int32 → Option (Int32 × MM)
  | 0, _, _ => none
  | n + 1, M, v1 =>
    (if (M 83 18) < (2 : Int32) then
      g_X11_readLoft_111 (g_X11_readLoft_86 n) M v1
    else
      (if (8 : Int32) ≤ (M 83 18) then
        g_X11_readLoft_131 M v1
      else
        (if v1 ≤ (M 83 14) then
          g_X11_readLoft_131 M v1
        else
          g_X11_readLoft_111 (g_X11_readLoft_86 n) M v1)))
def f_X11_readLoft (M : MM) (v1 : Int32) : Option (Int32 × MM) :=
  (nm (up2 M 83 18 (0 : Int32)) fun M1 =>
  (bi (f_X11_isSign M1 v1 (102 : Int32)) fun r2 M3 =>
  (if r2 = 0 then
    (some ((0 : Int32), M3))
  else
    (bi (f_X11_digit M3 v1 (1 : Int32) (6 : Int32)) fun r5 M6 =>
    (nm (up2 M6 83 15 r5) fun M8 =>
    (if (M8 83 15) = (-9 : Int32) then
      (some ((0 : Int32), M8))
    else
      (bi (f_X11_digit M8 v1 (1 : Int32) (9 : Int32)) fun r9 M10 =>
      (nm (up2 M10 83 16 r9) fun M12 =>
      (if (M12 83 16) = (-9 : Int32) then
        (some ((0 : Int32), M12))
      else
        (bi (f_X11_digit M12 v1 (0 : Int32) (9 : Int32)) fun r13 M14 =>
        (nm (up2 M14 83 17 r13) fun M16 =>
        (if (M16 83 17) = (-9 : Int32) then
          (some ((0 : Int32), M16))
        else
          g_X11_readLoft_86 FU M16 v1))))))))))))
def g_X11_takeLoft_34 : Nat → MM → Int32 → Option MM
  | 0, _, _ => none
  | n + 1, M, v1 =>
    (if (M 83 5) ≤ v1 then
      (nm (up2 M 83 21 (0 : Int32)) fun M5 =>
      (if ib (0 : Int32) 2 = true then nm (up2 M5 95 (0 : Int32).toNatClampNeg (0 : Int32)) fun M6 =>
      (if ib (1 : Int32) 2 = true then nm (up2 M6 95 (1 : Int32).toNatClampNeg (0 : Int32)) fun M7 =>
      (nm (up2 M7 83 35 (0 : Int32)) fun M8 =>
      (some M8)) else none) else none))
    else
      (if ib ((5 : Int32) * v1) 40 = true then
      (if ib v1 8 = true then nm (up2 M 87 v1.toNatClampNeg (M 92 ((5 : Int32) * v1).toNatClampNeg)) fun M9 =>
      (if ib (((5 : Int32) * v1) + (1 : Int32)) 40 = true then
      (if ib v1 8 = true then nm (up2 M9 88 v1.toNatClampNeg (M9 92 (((5 : Int32) * v1) + (1 : Int32)).toNatClampNeg)) fun M10 =>
      (if ib (((5 : Int32) * v1) + (2 : Int32)) 40 = true then
      (if ib v1 8 = true then nm (up2 M10 89 v1.toNatClampNeg (M10 92 (((5 : Int32) * v1) + (2 : Int32)).toNatClampNeg)) fun M11 =>
      (if ib (((5 : Int32) * v1) + (3 : Int32)) 40 = true then
      (if ib v1 8 = true then nm (up2 M11 90 v1.toNatClampNeg (M11 92 (((5 : Int32) * v1) + (3 : Int32)).toNatClampNeg)) fun M12 =>
      (if ib (((5 : Int32) * v1) + (4 : Int32)) 40 = true then
      (if ib v1 8 = true then nm (up2 M12 91 v1.toNatClampNeg (M12 92 (((5 : Int32) * v1) + (4 : Int32)).toNatClampNeg)) fun M13 =>
      g_X11_takeLoft_34 n M13 (v1 + (1 : Int32)) else none) else none) else none) else none) else none) else none) else none) else none) else none) else none))
def f_X11_takeLoft (M : MM) : Option MM :=
  (nm (up2 M 83 6 (M 83 15)) fun M1 =>
  (nm (up2 M1 83 7 (M1 83 16)) fun M2 =>
  (nm (up2 M2 83 8 (M2 83 17)) fun M3 =>
  (nm (up2 M3 83 5 (M3 83 18)) fun M4 =>
  g_X11_takeLoft_34 FU M4 (0 : Int32)))))
def f_X11_loft (M : MM) (v1 : Int32) (v2 : Int32) (v3 : Int32) (v4 : Int32) : Option (Int32 × MM) :=
  (nm (up2 M 83 0 (0 : Int32)) fun M1 =>
  (br (f_X11_isSheet M1 v1) fun r2 =>
  (if r2 = 0 then
    (some ((-1 : Int32), M1))
  else
    (br (f_X11_isSort M1 v2) fun r4 =>
    (if r4 = 0 then
      (some ((-2 : Int32), M1))
    else
      (br (f_X11_against M1 v1 v2 v3 v4) fun r6 =>
      (if r6 = 0 then
        (nm (((60 : Int32) * v1) + v3) fun x8 =>
        (nm (up2 M1 83 14 x8) fun M9 =>
        (bi (f_X11_readLoft M9 (x8 + v4)) fun r10 M11 =>
        (if r10 = 0 then
          (some (((-100 : Int32) - ((M11 83 14) - x8)), M11))
        else
          (br (f_X11_takeLoft M11) fun M14 =>
          (some ((M14 83 5), M14)))))))
      else
        (bi (f_X11_fails M1 r6) fun r16 M17 =>
        (some (r16, M17))))))))))
def g_X11_pullOf_44 (M : MM) (v1 : Int32) (s0 : Int32) : Option Int32 :=
  (if ib v1 8 = true then
  (if (M 87 v1.toNatClampNeg) = (1 : Int32) then
    (if s0 ≤ 0 then
      (some (0 : Int32))
    else
      (some (s0 - (1 : Int32))))
  else
    (if ib v1 8 = true then
    (if (M 87 v1.toNatClampNeg) = 0 then
      (some s0)
    else
      (some (s0 / (2 : Int32)))) else none)) else none)
def f_X11_pullOf (M : MM) (v1 : Int32) : Option Int32 :=
  (if ib v1 8 = true then
  (if ib v1 8 = true then
  (if (M 88 v1.toNatClampNeg) ≤ (M 89 v1.toNatClampNeg) then
    (if ib v1 8 = true then
    (if ib v1 8 = true then
    g_X11_pullOf_44 M v1 ((M 89 v1.toNatClampNeg) - (M 88 v1.toNatClampNeg)) else none) else none)
  else
    (if ib v1 8 = true then
    (if ib v1 8 = true then
    g_X11_pullOf_44 M v1 ((M 88 v1.toNatClampNeg) - (M 89 v1.toNatClampNeg)) else none) else none)) else none) else none)
def f_X11_edgeOf (M : MM) (v1 : Int32) : Option Int32 :=
  (if ib v1 8 = true then
  (if ib v1 8 = true then
  (if (M 90 v1.toNatClampNeg) ≤ (M 91 v1.toNatClampNeg) then
    (some (0 : Int32))
  else
    (if ib v1 8 = true then
    (if ib v1 8 = true then
    (some ((M 90 v1.toNatClampNeg) - (M 91 v1.toNatClampNeg))) else none) else none)) else none) else none)
def f_X11_ofBatten (M : MM) (v1 : Int32) (v2 : Int32) : Option Int32 :=
  (br (f_X11_isBatten M v1) fun r1 =>
  (if r1 = 0 then
    (some (-1 : Int32))
  else
    (if v2 = 0 then
      (if ib v1 8 = true then
      (some (M 87 v1.toNatClampNeg)) else none)
    else
    (if v2 = 1 then
      (if ib v1 8 = true then
      (some (M 88 v1.toNatClampNeg)) else none)
    else
    (if v2 = 2 then
      (if ib v1 8 = true then
      (some (M 89 v1.toNatClampNeg)) else none)
    else
    (if v2 = 3 then
      (if ib v1 8 = true then
      (some (M 90 v1.toNatClampNeg)) else none)
    else
    (if v2 = 4 then
      (if ib v1 8 = true then
      (some (M 91 v1.toNatClampNeg)) else none)
    else
    (if v2 = 5 then
      (br (f_X11_pullOf M v1) fun r8 =>
      (some r8))
    else
    (if v2 = 6 then
      (br (f_X11_edgeOf M v1) fun r11 =>
      (some r11))
    else
    (some (-2 : Int32)))))))))))
def g_X11_seenNow_9 (M : MM) : Nat → Int32 → Int32 → Int32 → Option Int32
  | 0, _, _, _ => none
  | n + 1, v1, v2, v3 =>
    (if (M 83 5) ≤ v3 then
      (some v1)
    else
      (br (f_X11_edgeOf M v3) fun r2 =>
      (if v2 ≤ r2 then
        g_X11_seenNow_9 M n v1 v2 (v3 + (1 : Int32))
      else
        (nm (v1 ||| (sl32 (1 : Int32) v3)) fun x4 =>
        (br (f_X11_edgeOf M v3) fun r5 =>
        g_X11_seenNow_9 M n x4 r5 (v3 + (1 : Int32)))))))
def f_X11_seenNow (M : MM) : Option Int32 :=
  (nm (M 83 7) fun x1 =>
  g_X11_seenNow_9 M FU (0 : Int32) x1 (0 : Int32))
def f_X11_seen (M : MM) : Option Int32 :=
  (if (M 83 5) = 0 then
    (some (-3 : Int32))
  else
    (br (f_X11_seenNow M) fun r1 =>
    (some r1)))
def g_X11_hides_12 (M : MM) : Nat → Int32 → Int32 → Option Int32
  | 0, _, _ => none
  | n + 1, v1, v2 =>
    (if v1 ≤ v2 then
      (some (-9 : Int32))
    else
      (br (f_X11_edgeOf M v1) fun r3 =>
      (if (M 83 7) ≤ r3 then
        g_X11_hides_12 M n v1 (v2 + (1 : Int32))
      else
        (br (f_X11_edgeOf M v2) fun r5 =>
        (br (f_X11_edgeOf M v1) fun r7 =>
        (if r7 < r5 then
          g_X11_hides_12 M n v1 (v2 + (1 : Int32))
        else
          (some v2)))))))
def f_X11_hides (M : MM) (v1 : Int32) : Option Int32 :=
  (br (f_X11_isBatten M v1) fun r1 =>
  (if r1 = 0 then
    (some (-1 : Int32))
  else
    g_X11_hides_12 M FU v1 (0 : Int32)))
def f_X11_hire (M : MM) (v1 : Int32) : Option (Int32 × MM) :=
  (br (f_X11_within M v1 (1 : Int32) (6 : Int32)) fun r1 =>
  (if r1 = 0 then
    (some ((-2 : Int32), M))
  else
    (if (M 83 5) = 0 then
      (some ((-3 : Int32), M))
    else
      (nm (M 83 6) fun x3 =>
      (nm (up2 M 83 6 v1) fun M4 =>
      (some (x3, M4)))))))
def f_X11_trim (M : MM) (v1 : Int32) : Option (Int32 × MM) :=
  (br (f_X11_within M v1 (1 : Int32) (9 : Int32)) fun r1 =>
  (if r1 = 0 then
    (some ((-2 : Int32), M))
  else
    (if (M 83 5) = 0 then
      (some ((-3 : Int32), M))
    else
      (nm (M 83 7) fun x3 =>
      (nm (up2 M 83 7 v1) fun M4 =>
      (some (x3, M4)))))))
def g_X11_goalsAsNow_2 : Nat → MM → Int32 → Option MM
  | 0, _, _ => none
  | n + 1, M, v1 =>
    (if (M 83 5) ≤ v1 then
      (some M)
    else
      (if ib v1 8 = true then
      (if ib v1 8 = true then nm (up2 M 93 v1.toNatClampNeg (M 90 v1.toNatClampNeg)) fun M1 =>
      g_X11_goalsAsNow_2 n M1 (v1 + (1 : Int32)) else none) else none))
def f_X11_goalsAsNow (M : MM) : Option MM :=
  g_X11_goalsAsNow_2 FU M (0 : Int32)
def f_X11_apart (M : MM) (v0 : Int32) (v1 : Int32) : Option Int32 :=
  (if v1 ≤ v0 then
    (some (v0 - v1))
  else
    (some (v1 - v0)))
def g_X11_fouls_56 (M : MM) (v1 : Int32) : Option Int32 :=
  (if ib v1 8 = true then
  (if ib (v1 + (1 : Int32)) 8 = true then
  (if (M 90 (v1 + (1 : Int32)).toNatClampNeg) ≤ (M 90 v1.toNatClampNeg) then
    (some (0 : Int32))
  else
    (if ib v1 8 = true then
    (if ib (v1 + (1 : Int32)) 8 = true then
    (if (M 93 v1.toNatClampNeg) ≤ (M 93 (v1 + (1 : Int32)).toNatClampNeg) then
      (some (0 : Int32))
    else
      (some (1 : Int32))) else none) else none)) else none) else none)
def f_X11_fouls (M : MM) (v1 : Int32) : Option Int32 :=
  (if ib v1 8 = true then
  (if (M 91 v1.toNatClampNeg) = 0 then
    (some (0 : Int32))
  else
    (if ib (v1 + (1 : Int32)) 8 = true then
    (if (M 91 (v1 + (1 : Int32)).toNatClampNeg) = 0 then
      (some (0 : Int32))
    else
      (if ib v1 8 = true then
      (if ib (v1 + (1 : Int32)) 8 = true then
      (if (M 90 v1.toNatClampNeg) ≤ (M 90 (v1 + (1 : Int32)).toNatClampNeg) then
        g_X11_fouls_56 M v1
      else
        (if ib v1 8 = true then
        (if ib (v1 + (1 : Int32)) 8 = true then
        (if (M 93 v1.toNatClampNeg) < (M 93 (v1 + (1 : Int32)).toNatClampNeg) then
          (some (1 : Int32))
        else
          g_X11_fouls_56 M v1) else none) else none)) else none) else none)) else none)) else none)
def g_X11_canBe_57 (M : MM) : Nat → Int32 → Option Int32
  | 0, _ => none
  | n + 1, v2 =>
    (if ((M 83 5) - (1 : Int32)) ≤ v2 then
      (some (1 : Int32))
    else
      (br (f_X11_fouls M v2) fun r5 =>
      (if r5 = 0 then
        g_X11_canBe_57 M n (v2 + (1 : Int32))
      else
        (some (0 : Int32)))))
def g_X11_canBe_4 (M : MM) : Nat → Int32 → Int32 → Option Int32
  | 0, _, _ => none
  | n + 1, v1, v2 =>
    (if (M 83 5) ≤ v2 then
      (if v1 ≤ (M 83 6) then
        g_X11_canBe_57 M FU (0 : Int32)
      else
        (some (0 : Int32)))
    else
      (if ib v2 8 = true then
      (if ib v2 8 = true then
      (if (M 93 v2.toNatClampNeg) = (M 90 v2.toNatClampNeg) then
        (nm (v1 + (0 : Int32)) fun x4 =>
        g_X11_canBe_4 M n x4 (v2 + (1 : Int32)))
      else
        (br (f_X11_pullOf M v2) fun r1 =>
        (nm (v1 + r1) fun x3 =>
        g_X11_canBe_4 M n x3 (v2 + (1 : Int32))))) else none) else none))
def f_X11_canBe (M : MM) : Option Int32 :=
  g_X11_canBe_4 M FU (0 : Int32) (0 : Int32)
def g_X11_beats_4 (M : MM) : Nat → Int32 → Int32 → Option Int32
  | 0, _, _ => none
  | n + 1, v1, v2 =>
    (if (M 83 5) ≤ v2 then
      (some v1)
    else
      (if ib v2 8 = true then
      (if ib v2 8 = true then
      (br (f_X11_apart M (M 90 v2.toNatClampNeg) (M 93 v2.toNatClampNeg)) fun r1 =>
      (if r1 ≤ v1 then
        g_X11_beats_4 M n v1 (v2 + (1 : Int32))
      else
        g_X11_beats_4 M n r1 (v2 + (1 : Int32)))) else none) else none))
def f_X11_beats (M : MM) : Option Int32 :=
  g_X11_beats_4 M FU (0 : Int32) (0 : Int32)
def g_X11_effort_4 (M : MM) : Nat → Int32 → Int32 → Option Int32
  | 0, _, _ => none
  | n + 1, v1, v2 =>
    (if (M 83 5) ≤ v2 then
      (some v1)
    else
      (br (f_X11_pullOf M v2) fun r1 =>
      (if ib v2 8 = true then
      (if ib v2 8 = true then
      (br (f_X11_apart M (M 90 v2.toNatClampNeg) (M 93 v2.toNatClampNeg)) fun r3 =>
      (nm (v1 + (r1 * r3)) fun x5 =>
      g_X11_effort_4 M n x5 (v2 + (1 : Int32)))) else none) else none)))
def f_X11_effort (M : MM) : Option Int32 :=
  g_X11_effort_4 M FU (0 : Int32) (0 : Int32)
def g_X11_goes_2 : Nat → MM → Int32 → Option MM
  | 0, _, _ => none
  | n + 1, M, v1 =>
    (if (M 83 5) ≤ v1 then
      (some M)
    else
      (if ib v1 8 = true then
      (if ib v1 8 = true then nm (up2 M 90 v1.toNatClampNeg (M 93 v1.toNatClampNeg)) fun M1 =>
      g_X11_goes_2 n M1 (v1 + (1 : Int32)) else none) else none))
def f_X11_goes (M : MM) : Option MM :=
  g_X11_goes_2 FU M (0 : Int32)
def g_X11_write_2 (k1 : Nat) (nk1 : Nat) : Nat → MM → Int32 → Int32 → Option MM
  | 0, _, _, _ => none
  | n + 1, M, v2, v3 =>
    (if (8 : Int32) ≤ v3 then
      (if ib (v2 + (24 : Int32)) nk1 = true then nm (up2 M k1 (v2 + (24 : Int32)).toNatClampNeg (M 83 8)) fun M1 =>
      (some M1) else none)
    else
      (if ib v3 8 = true then
      (if ib (v2 + v3) nk1 = true then nm (up2 M k1 (v2 + v3).toNatClampNeg (M 90 v3.toNatClampNeg)) fun M2 =>
      (if ib v3 8 = true then
      (if ib ((v2 + (8 : Int32)) + v3) nk1 = true then nm (up2 M2 k1 ((v2 + (8 : Int32)) + v3).toNatClampNeg (M2 88 v3.toNatClampNeg)) fun M3 =>
      (if ib v3 8 = true then
      (if ib ((v2 + (16 : Int32)) + v3) nk1 = true then nm (up2 M3 k1 ((v2 + (16 : Int32)) + v3).toNatClampNeg (M3 89 v3.toNatClampNeg)) fun M4 =>
      g_X11_write_2 k1 nk1 n M4 v2 (v3 + (1 : Int32)) else none) else none) else none) else none) else none) else none))
def f_X11_write (M : MM) (k1 : Nat) (n1 : Nat) (v2 : Int32) : Option MM :=
  g_X11_write_2 k1 n1 FU M v2 (0 : Int32)
def g_X11_remember_50 (M : MM) : Option MM :=
  (br (f_X11_write M 94 200 ((25 : Int32) * (M 83 21))) fun M2 =>
  (nm (up2 M2 83 21 ((M2 83 21) + (1 : Int32))) fun M4 =>
  (some M4)))
def g_X11_remember_12 : Nat → MM → Int32 → Option MM
  | 0, _, _ => none
  | n + 1, M, v1 =>
    (if (200 : Int32) ≤ v1 then
      (nm (up2 M 83 21 ((M 83 21) - (1 : Int32))) fun M5 =>
      g_X11_remember_50 M5)
    else
      (if ib v1 200 = true then
      (if ib (v1 - (25 : Int32)) 200 = true then nm (up2 M 94 (v1 - (25 : Int32)).toNatClampNeg (M 94 v1.toNatClampNeg)) fun M6 =>
      g_X11_remember_12 n M6 (v1 + (1 : Int32)) else none) else none))
def f_X11_remember (M : MM) : Option MM :=
  (if (M 83 21) = (8 : Int32) then
    g_X11_remember_12 FU M (25 : Int32)
  else
    g_X11_remember_50 M)
def f_X11_doCue (M : MM) : Option (Int32 × MM) :=
  (br (f_X11_canBe M) fun r1 =>
  (if r1 = 0 then
    (some ((-3 : Int32), M))
  else
    (br (f_X11_beats M) fun r3 =>
    (br (f_X11_remember M) fun M6 =>
    (br (f_X11_goes M6) fun M9 =>
    (some (r3, M9)))))))
def f_X11_fly (M : MM) (v1 : Int32) (v2 : Int32) : Option (Int32 × MM) :=
  (br (f_X11_isBatten M v1) fun r1 =>
  (if r1 = 0 then
    (some ((-1 : Int32), M))
  else
    (br (f_X11_isDigit M v2) fun r3 =>
    (if r3 = 0 then
      (some ((-2 : Int32), M))
    else
      (br (f_X11_goalsAsNow M) fun M6 =>
      (if ib v1 8 = true then nm (up2 M6 93 v1.toNatClampNeg v2) fun M8 =>
      (bi (f_X11_doCue M8) fun r9 M10 =>
      (some (r9, M10))) else none))))))
def g_X11_refusesPairs_2 (M : MM) : Nat → Int32 → Int32 → Int32 → Option Int32
  | 0, _, _, _ => none
  | n + 1, v1, v2, v3 =>
    (if v2 ≤ v3 then
      (some (0 : Int32))
    else
      (if ib (v1 + ((2 : Int32) * v3)) 240 = true then
      (br (f_X11_isBatten M (M 86 (v1 + ((2 : Int32) * v3)).toNatClampNeg)) fun r1 =>
      (if r1 = 0 then
        (some (-1 : Int32))
      else
        (if ib ((v1 + ((2 : Int32) * v3)) + (1 : Int32)) 240 = true then
        (br (f_X11_isDigit M (M 86 ((v1 + ((2 : Int32) * v3)) + (1 : Int32)).toNatClampNeg)) fun r3 =>
        (if r3 = 0 then
          (some (-2 : Int32))
        else
          g_X11_refusesPairs_2 M n v1 v2 (v3 + (1 : Int32)))) else none))) else none))
def f_X11_refusesPairs (M : MM) (v1 : Int32) (v2 : Int32) : Option Int32 :=
  g_X11_refusesPairs_2 M FU v1 v2 (0 : Int32)
def g_X11_isTwice_5 (M : MM) : Nat → Int32 → Int32 → Int32 → Int32 → Option Int32
  | 0, _, _, _, _ => none
  | n + 1, v1, v2, v3, v4 =>
    (if v2 ≤ v4 then
      (some (0 : Int32))
    else
      (if ib (v1 + ((2 : Int32) * v4)) 240 = true then
      (nm (M 86 (v1 + ((2 : Int32) * v4)).toNatClampNeg) fun x1 =>
      (if ((sr32 v3 x1) &&& (1 : Int32)) = (1 : Int32) then
        (some (1 : Int32))
      else
        (nm (v3 ||| (sl32 (1 : Int32) x1)) fun x2 =>
        g_X11_isTwice_5 M n v1 v2 x2 (v4 + (1 : Int32))))) else none))
def f_X11_isTwice (M : MM) (v1 : Int32) (v2 : Int32) : Option Int32 :=
  g_X11_isTwice_5 M FU v1 v2 (0 : Int32) (0 : Int32)
def g_X11_cue_117 : Nat → MM → Int32 → Int32 → Int32 → Option (Int32 × MM)
  | 0, _, _, _, _ => none
  | n + 1, M, v4, v6, v8 =>
    (if v4 ≤ v8 then
      (bi (f_X11_doCue M) fun r21 M22 =>
      (some (r21, M22)))
    else
      (if ib (v6 + ((2 : Int32) * v8)) 240 = true then
      (if ib ((v6 + ((2 : Int32) * v8)) + (1 : Int32)) 240 = true then
      (if ib (M 86 (v6 + ((2 : Int32) * v8)).toNatClampNeg) 8 = true then nm (up2 M 93 (M 86 (v6 + ((2 : Int32) * v8)).toNatClampNeg).toNatClampNeg (M 86 ((v6 + ((2 : Int32) * v8)) + (1 : Int32)).toNatClampNeg)) fun M24 =>
      g_X11_cue_117 n M24 v4 v6 (v8 + (1 : Int32)) else none) else none) else none))
def f_X11_cue (M : MM) (v1 : Int32) (v2 : Int32) (v3 : Int32) (v4 : Int32) : Option (Int32 × MM) :=
  (nm (up2 M 83 0 (0 : Int32)) fun M1 =>
  (br (f_X11_isSheet M1 v1) fun r2 =>
  (if r2 = 0 then
    (some ((-1 : Int32), M1))
  else
    (br (f_X11_isSort M1 v2) fun r4 =>
    (if r4 = 0 then
      (some ((-2 : Int32), M1))
    else
      (br (f_X11_within M1 v4 (0 : Int32) (8 : Int32)) fun r6 =>
      (if r6 = 0 then
        (some ((-2 : Int32), M1))
      else
        (br (f_X11_against M1 v1 v2 v3 ((2 : Int32) * v4)) fun r8 =>
        (if r8 = 0 then
          (if (M1 83 5) = 0 then
            (some ((-3 : Int32), M1))
          else
            (nm (((60 : Int32) * v1) + v3) fun x10 =>
            (br (f_X11_refusesPairs M1 x10 v4) fun r11 =>
            (if r11 = 0 then
              (br (f_X11_isTwice M1 x10 v4) fun r13 =>
              (if r13 = 0 then
                (br (f_X11_goalsAsNow M1) fun M16 =>
                g_X11_cue_117 FU M16 v4 x10 (0 : Int32))
              else
                (some ((-3 : Int32), M1))))
            else
              (some (r11, M1))))))
        else
          (bi (f_X11_fails M1 r8) fun r18 M19 =>
          (some (r18, M19))))))))))))
def f_X11_runsAway (M : MM) (v1 : Int32) : Option (Int32 × MM) :=
  (if ib v1 8 = true then
  (if ib v1 8 = true then
  (if (M 83 6) < ((M 89 v1.toNatClampNeg) - (M 88 v1.toNatClampNeg)) then
    (if ib v1 8 = true then nm (up2 M 90 v1.toNatClampNeg (9 : Int32)) fun M1 =>
    (some ((1 : Int32), M1)) else none)
  else
    (some ((0 : Int32), M))) else none) else none)
def f_X11_hang (M : MM) (v1 : Int32) (v2 : Int32) : Option (Int32 × MM) :=
  (br (f_X11_isBatten M v1) fun r1 =>
  (if r1 = 0 then
    (some ((-1 : Int32), M))
  else
    (br (f_X11_isDigit M v2) fun r3 =>
    (if r3 = 0 then
      (some ((-2 : Int32), M))
    else
      (if ib v1 8 = true then
      (if (M 90 v1.toNatClampNeg) = 0 then
        (br (f_X11_remember M) fun M6 =>
        (if ib v1 8 = true then nm (up2 M6 88 v1.toNatClampNeg v2) fun M8 =>
        (bi (f_X11_runsAway M8 v1) fun r9 M10 =>
        (some (r9, M10))) else none))
      else
        (some ((-3 : Int32), M))) else none)))))
def f_X11_brick (M : MM) (v1 : Int32) (v2 : Int32) : Option (Int32 × MM) :=
  (br (f_X11_isBatten M v1) fun r1 =>
  (if r1 = 0 then
    (some ((-1 : Int32), M))
  else
    (br (f_X11_isDigit M v2) fun r3 =>
    (if r3 = 0 then
      (some ((-2 : Int32), M))
    else
      (if ib v1 8 = true then
      (if (M 90 v1.toNatClampNeg) = 0 then
        (if ib v1 8 = true then
        (if (v2 - (M 89 v1.toNatClampNeg)) ≤ (M 83 8) then
          (br (f_X11_remember M) fun M6 =>
          (if ib v1 8 = true then
          (nm (up2 M6 83 8 ((M6 83 8) + ((M6 89 v1.toNatClampNeg) - v2))) fun M8 =>
          (if ib v1 8 = true then nm (up2 M8 89 v1.toNatClampNeg v2) fun M9 =>
          (bi (f_X11_runsAway M9 v1) fun r10 M11 =>
          (some (r10, M11))) else none)) else none))
        else
          (some ((-3 : Int32), M))) else none)
      else
        (some ((-3 : Int32), M))) else none)))))
def g_X11_readBack_2 (k1 : Nat) (nk1 : Nat) : Nat → MM → Int32 → Int32 → Option MM
  | 0, _, _, _ => none
  | n + 1, M, v2, v3 =>
    (if (8 : Int32) ≤ v3 then
      (if ib (v2 + (24 : Int32)) nk1 = true then
      (nm (up2 M 83 8 (M k1 (v2 + (24 : Int32)).toNatClampNeg)) fun M1 =>
      (some M1)) else none)
    else
      (if ib (v2 + v3) nk1 = true then
      (if ib v3 8 = true then nm (up2 M 90 v3.toNatClampNeg (M k1 (v2 + v3).toNatClampNeg)) fun M2 =>
      (if ib ((v2 + (8 : Int32)) + v3) nk1 = true then
      (if ib v3 8 = true then nm (up2 M2 88 v3.toNatClampNeg (M2 k1 ((v2 + (8 : Int32)) + v3).toNatClampNeg)) fun M3 =>
      (if ib ((v2 + (16 : Int32)) + v3) nk1 = true then
      (if ib v3 8 = true then nm (up2 M3 89 v3.toNatClampNeg (M3 k1 ((v2 + (16 : Int32)) + v3).toNatClampNeg)) fun M4 =>
      g_X11_readBack_2 k1 nk1 n M4 v2 (v3 + (1 : Int32)) else none) else none) else none) else none) else none) else none))
def f_X11_readBack (M : MM) (k1 : Nat) (n1 : Nat) (v2 : Int32) : Option MM :=
  g_X11_readBack_2 k1 n1 FU M v2 (0 : Int32)
def f_X11_undo (M : MM) : Option (Int32 × MM) :=
  (if (M 83 21) = 0 then
    (some ((-3 : Int32), M))
  else
    (nm (up2 M 83 21 ((M 83 21) - (1 : Int32))) fun M1 =>
    (br (f_X11_readBack M1 94 200 ((25 : Int32) * (M1 83 21))) fun M3 =>
    (some ((M3 83 21), M3)))))
def f_X11_keep (M : MM) (v1 : Int32) : Option (Int32 × MM) :=
  (br (f_X11_within M v1 (0 : Int32) (1 : Int32)) fun r1 =>
  (if r1 = 0 then
    (some ((-1 : Int32), M))
  else
    (if (M 83 5) = 0 then
      (some ((-3 : Int32), M))
    else
      (br (f_X11_write M 96 50 ((25 : Int32) * v1)) fun M4 =>
      (if ib v1 2 = true then nm (up2 M4 97 v1.toNatClampNeg (M4 83 6)) fun M6 =>
      (if ib v1 2 = true then nm (up2 M6 98 v1.toNatClampNeg (M6 83 7)) fun M7 =>
      (if ib v1 2 = true then nm (up2 M7 95 v1.toNatClampNeg (1 : Int32)) fun M8 =>
      (if ib (0 : Int32) 2 = true then
      (if (M8 95 (0 : Int32).toNatClampNeg) = 0 then
        (some ((1 : Int32), M8))
      else
        (if ib (1 : Int32) 2 = true then
        (if (M8 95 (1 : Int32).toNatClampNeg) = 0 then
          (some ((1 : Int32), M8))
        else
          (some ((2 : Int32), M8))) else none)) else none) else none) else none) else none)))))
def f_X11_restore (M : MM) (v1 : Int32) : Option (Int32 × MM) :=
  (br (f_X11_within M v1 (0 : Int32) (1 : Int32)) fun r1 =>
  (if r1 = 0 then
    (some ((-1 : Int32), M))
  else
    (if ib v1 2 = true then
    (if (M 95 v1.toNatClampNeg) = 0 then
      (some ((-3 : Int32), M))
    else
      (br (f_X11_readBack M 96 50 ((25 : Int32) * v1)) fun M4 =>
      (if ib v1 2 = true then
      (nm (up2 M4 83 6 (M4 97 v1.toNatClampNeg)) fun M6 =>
      (if ib v1 2 = true then
      (nm (up2 M6 83 7 (M6 98 v1.toNatClampNeg)) fun M7 =>
      (nm (up2 M7 83 21 (0 : Int32)) fun M8 =>
      (some ((M8 83 8), M8)))) else none)) else none))) else none)))
def g_X11_keepHeights_2 : Nat → MM → Int32 → Option MM
  | 0, _, _ => none
  | n + 1, M, v1 =>
    (if (8 : Int32) ≤ v1 then
      (some M)
    else
      (if ib v1 8 = true then
      (if ib v1 8 = true then nm (up2 M 99 v1.toNatClampNeg (M 90 v1.toNatClampNeg)) fun M1 =>
      g_X11_keepHeights_2 n M1 (v1 + (1 : Int32)) else none) else none))
def f_X11_keepHeights (M : MM) : Option MM :=
  g_X11_keepHeights_2 FU M (0 : Int32)
def g_X11_putHeights_2 : Nat → MM → Int32 → Option MM
  | 0, _, _ => none
  | n + 1, M, v1 =>
    (if (8 : Int32) ≤ v1 then
      (some M)
    else
      (if ib v1 8 = true then
      (if ib v1 8 = true then nm (up2 M 90 v1.toNatClampNeg (M 99 v1.toNatClampNeg)) fun M1 =>
      g_X11_putHeights_2 n M1 (v1 + (1 : Int32)) else none) else none))
def f_X11_putHeights (M : MM) : Option MM :=
  g_X11_putHeights_2 FU M (0 : Int32)
def g_X11_goAct_12 : Nat → MM → Int32 → Int32 → Int32 → Option (Int32 × MM)
  | 0, _, _, _, _ => none
  | n + 1, M, v1, v2, v3 =>
    (if v2 ≤ v3 then
      (some ((-9 : Int32), M))
    else
      (br (f_X11_goalsAsNow M) fun M4 =>
      (if ib (v1 + ((2 : Int32) * v3)) 240 = true then
      (if ib ((v1 + ((2 : Int32) * v3)) + (1 : Int32)) 240 = true then
      (if ib (M4 86 (v1 + ((2 : Int32) * v3)).toNatClampNeg) 8 = true then nm (up2 M4 93 (M4 86 (v1 + ((2 : Int32) * v3)).toNatClampNeg).toNatClampNeg (M4 86 ((v1 + ((2 : Int32) * v3)) + (1 : Int32)).toNatClampNeg)) fun M6 =>
      (br (f_X11_canBe M6) fun r7 =>
      (if r7 = 0 then
        (some (v3, M6))
      else
        (br (f_X11_beats M6) fun r9 =>
        (nm (up2 M6 83 28 ((M6 83 28) + r9)) fun M11 =>
        (br (f_X11_effort M11) fun r12 =>
        (nm (up2 M11 83 29 ((M11 83 29) + r12)) fun M14 =>
        (br (f_X11_goes M14) fun M16 =>
        g_X11_goAct_12 n M16 v1 v2 (v3 + (1 : Int32))))))))) else none) else none) else none)))
def f_X11_goAct (M : MM) (v1 : Int32) (v2 : Int32) : Option (Int32 × MM) :=
  (nm (up2 M 83 28 (0 : Int32)) fun M1 =>
  (nm (up2 M1 83 29 (0 : Int32)) fun M2 =>
  g_X11_goAct_12 FU M2 v1 v2 (0 : Int32)))
def f_X11_tellAct (M : MM) (v1 : Int32) : Option Int32 :=
  (if v1 < (10 : Int32) then
    (if v1 = 0 then
      (some (M 83 28))
    else
      (if v1 = (2 : Int32) then
        (some (M 83 29))
      else
        (br (f_X11_seenNow M) fun r1 =>
        (some r1))))
  else
    (br (f_X11_isBatten M (v1 - (10 : Int32))) fun r3 =>
    (if r3 = 0 then
      (some (-9 : Int32))
    else
      (if ib (v1 - (10 : Int32)) 8 = true then
      (some (M 90 (v1 - (10 : Int32)).toNatClampNeg)) else none))))
def g_X11_act_57 (M : MM) (v1 : Int32) (v2 : Int32) (v3 : Int32) (v4 : Int32) (v5 : Int32) : Option (Int32 × MM) :=
  (br (f_X11_against M v1 v2 v3 ((2 : Int32) * v4)) fun r12 =>
  (if r12 = 0 then
    (if (M 83 5) = 0 then
      (some ((-3 : Int32), M))
    else
      (nm (((60 : Int32) * v1) + v3) fun x14 =>
      (br (f_X11_refusesPairs M x14 v4) fun r15 =>
      (if r15 = 0 then
        (br (f_X11_keepHeights M) fun M18 =>
        (bi (f_X11_goAct M18 x14 v4) fun r20 M21 =>
        (br (f_X11_tellAct M21 v5) fun r23 =>
        (br (f_X11_putHeights M21) fun M26 =>
        (if v5 = (1 : Int32) then
          (some (r20, M26))
        else
          (if r20 = (-9 : Int32) then
            (some (r23, M26))
          else
            (some (((-100 : Int32) - r20), M26))))))))
      else
        (some (r15, M))))))
  else
    (bi (f_X11_fails M r12) fun r28 M29 =>
    (some (r28, M29)))))
def f_X11_act (M : MM) (v1 : Int32) (v2 : Int32) (v3 : Int32) (v4 : Int32) (v5 : Int32) : Option (Int32 × MM) :=
  (nm (up2 M 83 0 (0 : Int32)) fun M1 =>
  (br (f_X11_isSheet M1 v1) fun r2 =>
  (if r2 = 0 then
    (some ((-1 : Int32), M1))
  else
    (br (f_X11_isSort M1 v2) fun r4 =>
    (if r4 = 0 then
      (some ((-2 : Int32), M1))
    else
      (br (f_X11_within M1 v4 (0 : Int32) (20 : Int32)) fun r6 =>
      (if r6 = 0 then
        (some ((-2 : Int32), M1))
      else
        (br (f_X11_within M1 v5 (0 : Int32) (3 : Int32)) fun r8 =>
        (if r8 = 0 then
          (br (f_X11_within M1 v5 (10 : Int32) (17 : Int32)) fun r10 =>
          (if r10 = 0 then
            (some ((-2 : Int32), M1))
          else
            g_X11_act_57 M1 v1 v2 v3 v4 v5))
        else
          g_X11_act_57 M1 v1 v2 v3 v4 v5)))))))))
def g_X11_crew_110 : Nat → MM → Int32 → Int32 → Int32 → Int32 → Int32 → Option (Int32 × MM)
  | 0, _, _, _, _, _, _ => none
  | n + 1, M, v4, v6, v8, v9, v10 =>
    (if v10 ≤ 0 then
      (nm (up2 M 83 6 v8) fun M17 =>
      (some (v9, M17)))
    else
      (nm (up2 M 83 6 v10) fun M18 =>
      (br (f_X11_keepHeights M18) fun M20 =>
      (bi (f_X11_goAct M20 v6 v4) fun r22 M23 =>
      (if r22 = (-9 : Int32) then
        (br (f_X11_putHeights M23) fun M29 =>
        g_X11_crew_110 n M29 v4 v6 v8 v10 (v10 + (-1 : Int32)))
      else
        (br (f_X11_putHeights M23) fun M26 =>
        g_X11_crew_110 n M26 v4 v6 v8 v9 (v10 + (-1 : Int32))))))))
def f_X11_crew (M : MM) (v1 : Int32) (v2 : Int32) (v3 : Int32) (v4 : Int32) : Option (Int32 × MM) :=
  (nm (up2 M 83 0 (0 : Int32)) fun M1 =>
  (br (f_X11_isSheet M1 v1) fun r2 =>
  (if r2 = 0 then
    (some ((-1 : Int32), M1))
  else
    (br (f_X11_isSort M1 v2) fun r4 =>
    (if r4 = 0 then
      (some ((-2 : Int32), M1))
    else
      (br (f_X11_within M1 v4 (0 : Int32) (20 : Int32)) fun r6 =>
      (if r6 = 0 then
        (some ((-2 : Int32), M1))
      else
        (br (f_X11_against M1 v1 v2 v3 ((2 : Int32) * v4)) fun r8 =>
        (if r8 = 0 then
          (if (M1 83 5) = 0 then
            (some ((-3 : Int32), M1))
          else
            (nm (((60 : Int32) * v1) + v3) fun x10 =>
            (br (f_X11_refusesPairs M1 x10 v4) fun r11 =>
            (if r11 = 0 then
              (nm (M1 83 6) fun x13 =>
              g_X11_crew_110 FU M1 v4 x10 x13 (-9 : Int32) (6 : Int32))
            else
              (some (r11, M1))))))
        else
          (bi (f_X11_fails M1 r8) fun r14 M15 =>
          (some (r14, M15))))))))))))
def g_X11_placeBy_31 (M : MM) (v2 : Int32) (s0 : Int32) : Option Int32 :=
  (if v2 = 0 then
    (some (0 : Int32))
  else
    (if v2 = (1 : Int32) then
      (some s0)
    else
      (some (9 : Int32))))
def f_X11_placeBy (M : MM) (v1 : Int32) (v2 : Int32) : Option Int32 :=
  (if ib v1 8 = true then
  (if (M 90 v1.toNatClampNeg) = 0 then
    g_X11_placeBy_31 M v2 (-9 : Int32)
  else
    (if ib v1 8 = true then
    (if (M 90 v1.toNatClampNeg) = (9 : Int32) then
      g_X11_placeBy_31 M v2 (-9 : Int32)
    else
      (if ib v1 8 = true then
      g_X11_placeBy_31 M v2 (M 90 v1.toNatClampNeg) else none)) else none)) else none)
def g_X11_goalsBy_108 (rec19 : MM → Int32 → Int32 → Option (Int32 × MM)) (M : MM) (v2 : Int32) (v3 : Int32) (v4 : Int32) (s0 : Int32) (s1 : Int32) : Option (Int32 × MM) :=
  (nm (up2 M 83 31 (s1 + s0)) fun M10 =>
  (if v4 = 0 then
    (nm (up2 M10 83 32 ((M10 83 32) + (0 : Int32))) fun M11 =>
    rec19 M11 v2 (v3 + (-1 : Int32)))
  else
    (br (f_X11_pullOf M10 v3) fun r12 =>
    (if ib v3 8 = true then
    (if ib v3 8 = true then
    (br (f_X11_apart M10 (M10 93 v3.toNatClampNeg) (M10 90 v3.toNatClampNeg)) fun r14 =>
    (nm (up2 M10 83 32 ((M10 83 32) + (r12 * r14))) fun M16 =>
    rec19 M16 v2 (v3 + (-1 : Int32)))) else none) else none))))
def g_X11_goalsBy_93 (rec19 : MM → Int32 → Int32 → Option (Int32 × MM)) (M : MM) (v2 : Int32) (v3 : Int32) (v4 : Int32) : Option (Int32 × MM) :=
  (if v4 = 0 then
    g_X11_goalsBy_108 rec19 M v2 v3 v4 (0 : Int32) (M 83 31)
  else
    g_X11_goalsBy_108 rec19 M v2 v3 v4 (1 : Int32) (M 83 31))
def g_X11_goalsBy_61 (rec19 : MM → Int32 → Int32 → Option (Int32 × MM)) (M : MM) (v2 : Int32) (v3 : Int32) (s0 : Int32) : Option (Int32 × MM) :=
  (if ib v3 8 = true then
  (if (M 93 v3.toNatClampNeg) = (-9 : Int32) then
    (some ((0 : Int32), M))
  else
    (if s0 = 0 then
      g_X11_goalsBy_93 rec19 M v2 v3 s0
    else
      (br (f_X11_pullOf M v3) fun r8 =>
      (if r8 ≤ (M 83 6) then
        g_X11_goalsBy_93 rec19 M v2 v3 s0
      else
        (some ((0 : Int32), M)))))) else none)
def g_X11_goalsBy_19 : Nat → MM → Int32 → Int32 → Option (Int32 × MM)
  | 0, _, _, _ => none
  | n + 1, M, v2, v3 =>
    (if v3 < 0 then
      (some ((1 : Int32), M))
    else
      (br (f_X11_placeBy M v3 (rm32 v2 (3 : Int32))) fun r4 =>
      (if ib v3 8 = true then nm (up2 M 93 v3.toNatClampNeg r4) fun M6 =>
      (nm (v2 / (3 : Int32)) fun x7 =>
      (if ib v3 8 = true then
      (if ib v3 8 = true then
      (if (M6 93 v3.toNatClampNeg) = (M6 90 v3.toNatClampNeg) then
        g_X11_goalsBy_61 (g_X11_goalsBy_19 n) M6 x7 v3 (0 : Int32)
      else
        g_X11_goalsBy_61 (g_X11_goalsBy_19 n) M6 x7 v3 (1 : Int32)) else none) else none)) else none)))
def f_X11_goalsBy (M : MM) (v1 : Int32) : Option (Int32 × MM) :=
  (nm (up2 M 83 31 (0 : Int32)) fun M1 =>
  (nm (up2 M1 83 32 (0 : Int32)) fun M2 =>
  (nm ((M2 83 5) - (1 : Int32)) fun x3 =>
  g_X11_goalsBy_19 FU M2 v1 x3)))
def f_X11_isPicture (M : MM) (v1 : Int32) : Option (Int32 × MM) :=
  (br (f_X11_keepHeights M) fun M2 =>
  (br (f_X11_goes M2) fun M5 =>
  (br (f_X11_seenNow M5) fun r7 =>
  (if r7 = v1 then
    (br (f_X11_putHeights M5) fun M13 =>
    (some ((1 : Int32), M13)))
  else
    (br (f_X11_putHeights M5) fun M10 =>
    (some ((0 : Int32), M10)))))))
def g_X11_findPicture_85 (rec28 : MM → Int32 → Int32 → Int32 → Int32 → Option (Int32 × MM)) : Nat → MM → Int32 → Int32 → Int32 → Int32 → Int32 → Option (Int32 × MM)
  | 0, _, _, _, _, _, _ => none
  | n + 1, M, v1, v2, v3, v4, v5 =>
    (if (M 83 5) ≤ v5 then
      rec28 M v1 v2 v3 (v4 + (1 : Int32))
    else
      (if ib v5 8 = true then
      (if ib v5 8 = true then nm (up2 M 100 v5.toNatClampNeg (M 93 v5.toNatClampNeg)) fun M9 =>
      g_X11_findPicture_85 rec28 n M9 v1 v2 v3 v4 (v5 + (1 : Int32)) else none) else none))
def g_X11_findPicture_28 : Nat → MM → Int32 → Int32 → Int32 → Int32 → Option (Int32 × MM)
  | 0, _, _, _, _, _ => none
  | n + 1, M, v1, v2, v3, v4 =>
    (if v2 ≤ v4 then
      (some (v3, M))
    else
      (bi (f_X11_goalsBy M v4) fun r2 M3 =>
      (if r2 = 0 then
        g_X11_findPicture_28 n M3 v1 v2 v3 (v4 + (1 : Int32))
      else
        (if v3 ≤ (((1000 : Int32) * (M3 83 31)) + (M3 83 32)) then
          g_X11_findPicture_28 n M3 v1 v2 v3 (v4 + (1 : Int32))
        else
          (bi (f_X11_isPicture M3 v1) fun r5 M6 =>
          (if r5 = 0 then
            g_X11_findPicture_28 n M6 v1 v2 v3 (v4 + (1 : Int32))
          else
            (nm (((1000 : Int32) * (M6 83 31)) + (M6 83 32)) fun x8 =>
            g_X11_findPicture_85 (g_X11_findPicture_28 n) FU M6 v1 v2 x8 v4 (0 : Int32))))))))
def g_X11_findPicture_4 : Nat → MM → Int32 → Int32 → Int32 → Option (Int32 × MM)
  | 0, _, _, _, _ => none
  | n + 1, M, v1, v2, v3 =>
    (if (M 83 5) ≤ v3 then
      g_X11_findPicture_28 FU M v1 v2 (1000000 : Int32) (0 : Int32)
    else
      (nm (v2 * (3 : Int32)) fun x1 =>
      g_X11_findPicture_4 n M v1 x1 (v3 + (1 : Int32))))
def f_X11_findPicture (M : MM) (v1 : Int32) : Option (Int32 × MM) :=
  g_X11_findPicture_4 FU M v1 (1 : Int32) (0 : Int32)
def f_X11_picture (M : MM) (v1 : Int32) (v2 : Int32) : Option (Int32 × MM) :=
  (if (M 83 5) = 0 then
    (some ((-3 : Int32), M))
  else
    (br (f_X11_within M v1 (0 : Int32) ((sl32 (1 : Int32) (M 83 5)) - (1 : Int32))) fun r1 =>
    (if r1 = 0 then
      (some ((-2 : Int32), M))
    else
      (br (f_X11_within M v2 (-2 : Int32) (7 : Int32)) fun r3 =>
      (if r3 = 0 then
        (some ((-2 : Int32), M))
      else
        (bi (f_X11_findPicture M v1) fun r5 M6 =>
        (if r5 = (1000000 : Int32) then
          (some ((-9 : Int32), M6))
        else
          (if 0 ≤ v2 then
            (br (f_X11_isBatten M6 v2) fun r8 =>
            (if r8 = 0 then
              (some ((-9 : Int32), M6))
            else
              (if ib v2 8 = true then
              (some ((M6 100 v2.toNatClampNeg), M6)) else none)))
          else
            (if v2 = (-2 : Int32) then
              (some ((r5 / (1000 : Int32)), M6))
            else
              (some ((rm32 r5 (1000 : Int32)), M6)))))))))))
def g_X11_canSplit_28 (rec10 : MM → Int32 → Int32 → Int32 → Int32 → Int32 → Option (Int32 × MM)) : Nat → MM → Int32 → Int32 → Int32 → Int32 → Int32 → Option (Int32 × MM)
  | 0, _, _, _, _, _, _ => none
  | n + 1, M, v1, v2, v3, v5, v6 =>
    (if v2 ≤ v6 then
      (br (f_X11_canBe M) fun r13 =>
      (if r13 = 0 then
        rec10 M v1 v2 v3 r13 (v5 + (1 : Int32))
      else
        (br (f_X11_goes M) fun M16 =>
        rec10 M16 v1 v2 v3 r13 (v5 + (1 : Int32)))))
    else
      (if ib v6 5 = true then
      (if (M 101 v6.toNatClampNeg) = v5 then
        (if ib (v1 + ((2 : Int32) * v6)) 240 = true then
        (if ib ((v1 + ((2 : Int32) * v6)) + (1 : Int32)) 240 = true then
        (if ib (M 86 (v1 + ((2 : Int32) * v6)).toNatClampNeg) 8 = true then nm (up2 M 93 (M 86 (v1 + ((2 : Int32) * v6)).toNatClampNeg).toNatClampNeg (M 86 ((v1 + ((2 : Int32) * v6)) + (1 : Int32)).toNatClampNeg)) fun M18 =>
        g_X11_canSplit_28 rec10 n M18 v1 v2 v3 v5 (v6 + (1 : Int32)) else none) else none) else none)
      else
        g_X11_canSplit_28 rec10 n M v1 v2 v3 v5 (v6 + (1 : Int32))) else none))
def g_X11_canSplit_10 : Nat → MM → Int32 → Int32 → Int32 → Int32 → Int32 → Option (Int32 × MM)
  | 0, _, _, _, _, _, _ => none
  | n + 1, M, v1, v2, v3, v4, v5 =>
    (if v3 ≤ v5 then
      (br (f_X11_putHeights M) fun M5 =>
      (if nb v4 = true then some (v4, M5) else none))
    else
      (if v4 = 0 then
        (br (f_X11_putHeights M) fun M8 =>
        (if nb v4 = true then some (v4, M8) else none))
      else
        (br (f_X11_goalsAsNow M) fun M11 =>
        g_X11_canSplit_28 (g_X11_canSplit_10 n) FU M11 v1 v2 v3 v5 (0 : Int32))))
def f_X11_canSplit (M : MM) (v1 : Int32) (v2 : Int32) (v3 : Int32) : Option (Int32 × MM) :=
  (br (f_X11_keepHeights M) fun M2 =>
  g_X11_canSplit_10 FU M2 v1 v2 v3 (1 : Int32) (0 : Int32))
def g_X11_findSplit_91 : Nat → MM → Int32 → Int32 → Int32 → Option (Int32 × MM)
  | 0, _, _, _, _ => none
  | n + 1, M, v2, v3, v7 =>
    (if v2 ≤ v7 then
      (some (v3, M))
    else
      (if ib v7 5 = true then
      (if ib v7 5 = true then nm (up2 M 102 v7.toNatClampNeg (M 101 v7.toNatClampNeg)) fun M8 =>
      g_X11_findSplit_91 n M8 v2 v3 (v7 + (1 : Int32)) else none) else none))
def g_X11_findSplit_50 (rec2 : MM → Int32 → Int32 → Int32 → Option (Int32 × MM)) (rec34 : MM → Int32 → Int32 → Int32 → Int32 → Int32 → Option (Int32 × MM)) : Nat → MM → Int32 → Int32 → Int32 → Int32 → Int32 → Int32 → Int32 → Option (Int32 × MM)
  | 0, _, _, _, _, _, _, _, _ => none
  | n + 1, M, v1, v2, v3, v4, v5, v6, v7 =>
    (if v7 < 0 then
      (bi (f_X11_canSplit M v1 v2 v3) fun r3 M4 =>
      (if r3 = 0 then
        rec34 M4 v1 v2 v3 v4 (v5 + (1 : Int32))
      else
        g_X11_findSplit_91 FU M4 v2 v3 (0 : Int32)))
    else
      (if v3 = 0 then none else
      (if ib v7 5 = true then nm (up2 M 101 v7.toNatClampNeg (rm32 v6 v3)) fun M6 =>
      (if v3 = 0 then none else
      (nm (v6 / v3) fun x7 =>
      g_X11_findSplit_50 rec2 rec34 n M6 v1 v2 v3 v4 v5 x7 (v7 + (-1 : Int32)))) else none)))
def g_X11_findSplit_34 (rec2 : MM → Int32 → Int32 → Int32 → Option (Int32 × MM)) : Nat → MM → Int32 → Int32 → Int32 → Int32 → Int32 → Option (Int32 × MM)
  | 0, _, _, _, _, _, _ => none
  | n + 1, M, v1, v2, v3, v4, v5 =>
    (if v4 ≤ v5 then
      rec2 M v1 v2 (v3 + (1 : Int32))
    else
      (nm (v2 - (1 : Int32)) fun x2 =>
      g_X11_findSplit_50 rec2 (g_X11_findSplit_34 rec2 n) FU M v1 v2 v3 v4 v5 v5 x2))
def g_X11_findSplit_13 (rec2 : MM → Int32 → Int32 → Int32 → Option (Int32 × MM)) : Nat → MM → Int32 → Int32 → Int32 → Int32 → Int32 → Option (Int32 × MM)
  | 0, _, _, _, _, _, _ => none
  | n + 1, M, v1, v2, v3, v4, v5 =>
    (if v2 ≤ v5 then
      g_X11_findSplit_34 rec2 FU M v1 v2 v3 v4 (0 : Int32)
    else
      (nm (v4 * v3) fun x1 =>
      g_X11_findSplit_13 rec2 n M v1 v2 v3 x1 (v5 + (1 : Int32))))
def g_X11_findSplit_2 : Nat → MM → Int32 → Int32 → Int32 → Option (Int32 × MM)
  | 0, _, _, _, _ => none
  | n + 1, M, v1, v2, v3 =>
    (if v2 < v3 then
      (some ((-9 : Int32), M))
    else
      g_X11_findSplit_13 (g_X11_findSplit_2 n) FU M v1 v2 v3 (1 : Int32) (0 : Int32))
def f_X11_findSplit (M : MM) (v1 : Int32) (v2 : Int32) : Option (Int32 × MM) :=
  g_X11_findSplit_2 FU M v1 v2 (0 : Int32)
def f_X11_split (M : MM) (v1 : Int32) (v2 : Int32) (v3 : Int32) (v4 : Int32) (v5 : Int32) : Option (Int32 × MM) :=
  (nm (up2 M 83 0 (0 : Int32)) fun M1 =>
  (br (f_X11_isSheet M1 v1) fun r2 =>
  (if r2 = 0 then
    (some ((-1 : Int32), M1))
  else
    (br (f_X11_isSort M1 v2) fun r4 =>
    (if r4 = 0 then
      (some ((-2 : Int32), M1))
    else
      (br (f_X11_within M1 v4 (0 : Int32) (5 : Int32)) fun r6 =>
      (if r6 = 0 then
        (some ((-2 : Int32), M1))
      else
        (br (f_X11_within M1 v5 (-1 : Int32) (4 : Int32)) fun r8 =>
        (if r8 = 0 then
          (some ((-2 : Int32), M1))
        else
          (br (f_X11_against M1 v1 v2 v3 ((2 : Int32) * v4)) fun r10 =>
          (if r10 = 0 then
            (if (M1 83 5) = 0 then
              (some ((-3 : Int32), M1))
            else
              (nm (((60 : Int32) * v1) + v3) fun x12 =>
              (br (f_X11_refusesPairs M1 x12 v4) fun r13 =>
              (if r13 = 0 then
                (br (f_X11_isTwice M1 x12 v4) fun r15 =>
                (if r15 = 0 then
                  (bi (f_X11_findSplit M1 x12 v4) fun r17 M18 =>
                  (if v5 = (-1 : Int32) then
                    (some (r17, M18))
                  else
                    (if r17 = (-9 : Int32) then
                      (some ((-9 : Int32), M18))
                    else
                      (if v4 ≤ v5 then
                        (some ((-9 : Int32), M18))
                      else
                        (if ib v5 5 = true then
                        (some ((M18 102 v5.toNatClampNeg), M18)) else none)))))
                else
                  (some ((-3 : Int32), M1))))
              else
                (some (r13, M1))))))
          else
            (bi (f_X11_fails M1 r10) fun r20 M21 =>
            (some (r20, M21))))))))))))))
def g_X11_balance_74 (rec34 : MM → Int32 → Int32 → Int32 → Int32 → Int32 → Option (Int32 × MM)) (M : MM) (v1 : Int32) (v2 : Int32) (v3 : Int32) (v4 : Int32) (v5 : Int32) (s0 : Int32) : Option (Int32 × MM) :=
  (if s0 = 0 then
    rec34 M v1 v2 v3 v4 (v5 + (1 : Int32))
  else
    (if v4 = (-9 : Int32) then
      rec34 M v1 v2 v3 v5 (v5 + (1 : Int32))
    else
      (br (f_X11_apart M v5 v3) fun r11 =>
      (br (f_X11_apart M v4 v3) fun r13 =>
      (if r13 ≤ r11 then
        rec34 M v1 v2 v3 v4 (v5 + (1 : Int32))
      else
        rec34 M v1 v2 v3 v5 (v5 + (1 : Int32)))))))
def g_X11_balance_34 : Nat → MM → Int32 → Int32 → Int32 → Int32 → Int32 → Option (Int32 × MM)
  | 0, _, _, _, _, _, _ => none
  | n + 1, M, v1, v2, v3, v4, v5 =>
    (if (9 : Int32) < v5 then
      (if ib v1 8 = true then nm (up2 M 89 v1.toNatClampNeg v3) fun M6 =>
      (some (v4, M6)) else none)
    else
      (if (v3 + (M 83 8)) < v5 then
        (if ib v1 8 = true then nm (up2 M 89 v1.toNatClampNeg v3) fun M7 =>
        (some (v4, M7)) else none)
      else
        (if ib v1 8 = true then nm (up2 M 89 v1.toNatClampNeg v5) fun M8 =>
        (br (f_X11_pullOf M8 v1) fun r9 =>
        (if v2 < r9 then
          g_X11_balance_74 (g_X11_balance_34 n) M8 v1 v2 v3 v4 v5 (0 : Int32)
        else
          g_X11_balance_74 (g_X11_balance_34 n) M8 v1 v2 v3 v4 v5 (1 : Int32))) else none)))
def f_X11_balance (M : MM) (v1 : Int32) (v2 : Int32) : Option (Int32 × MM) :=
  (br (f_X11_isBatten M v1) fun r1 =>
  (if r1 = 0 then
    (some ((-1 : Int32), M))
  else
    (br (f_X11_isDigit M v2) fun r3 =>
    (if r3 = 0 then
      (some ((-2 : Int32), M))
    else
      (if ib v1 8 = true then
      (nm (M 89 v1.toNatClampNeg) fun x5 =>
      g_X11_balance_34 FU M v1 v2 x5 (-9 : Int32) (0 : Int32)) else none)))))
def f_X11_reading (M : MM) (v1 : Int32) (v2 : Int32) (v3 : Int32) : Option (Int32 × MM) :=
  (br (f_X11_isBatten M v1) fun r1 =>
  (if r1 = 0 then
    (some ((-1 : Int32), M))
  else
    (br (f_X11_within M v2 (1 : Int32) (9 : Int32)) fun r3 =>
    (if r3 = 0 then
      (some ((-2 : Int32), M))
    else
      (br (f_X11_within M v3 (0 : Int32) (81 : Int32)) fun r5 =>
      (if r5 = 0 then
        (some ((-2 : Int32), M))
      else
        (if (M 83 35) = (8 : Int32) then
          (some ((-4 : Int32), M))
        else
          (if ib (M 83 35) 8 = true then nm (up2 M 103 (M 83 35).toNatClampNeg v1) fun M7 =>
          (if ib (M7 83 35) 8 = true then nm (up2 M7 104 (M7 83 35).toNatClampNeg v2) fun M8 =>
          (if ib (M8 83 35) 8 = true then nm (up2 M8 105 (M8 83 35).toNatClampNeg v3) fun M9 =>
          (nm (up2 M9 83 35 ((M9 83 35) + (1 : Int32))) fun M10 =>
          (some (((M10 83 35) - (1 : Int32)), M10))) else none) else none) else none))))))))
def f_X11_back (M : MM) (v1 : Int32) : Option (Int32 × MM) :=
  (br (f_X11_within M v1 (0 : Int32) (M 83 35)) fun r1 =>
  (if r1 = 0 then
    (some ((-2 : Int32), M))
  else
    (nm (up2 M 83 35 ((M 83 35) - v1)) fun M3 =>
    (some ((M3 83 35), M3)))))
def g_X11_areSo_2 (M : MM) : Nat → Int32 → Option Int32
  | 0, _ => none
  | n + 1, v1 =>
    (if (M 83 35) ≤ v1 then
      (some (1 : Int32))
    else
      (if ib v1 8 = true then
      (br (f_X11_pullOf M (M 103 v1.toNatClampNeg)) fun r1 =>
      (if ib v1 8 = true then
      (if ib v1 8 = true then
      (if (r1 * (M 104 v1.toNatClampNeg)) = (M 105 v1.toNatClampNeg) then
        g_X11_areSo_2 M n (v1 + (1 : Int32))
      else
        (some (0 : Int32))) else none) else none)) else none))
def f_X11_areSo (M : MM) : Option Int32 :=
  g_X11_areSo_2 M FU (0 : Int32)
def g_X11_loads_22 : Nat → MM → Int32 → Int32 → Int32 → Int32 → Option (Int32 × MM)
  | 0, _, _, _, _, _ => none
  | n + 1, M, v1, v2, v3, v4 =>
    (if (9 : Int32) < v4 then
      (if ib v1 8 = true then nm (up2 M 88 v1.toNatClampNeg v2) fun M4 =>
      (some (v3, M4)) else none)
    else
      (if ib v1 8 = true then nm (up2 M 88 v1.toNatClampNeg v4) fun M5 =>
      (br (f_X11_areSo M5) fun r6 =>
      (if r6 = 0 then
        (nm (v3 ||| (0 : Int32)) fun x8 =>
        g_X11_loads_22 n M5 v1 v2 x8 (v4 + (1 : Int32)))
      else
        (nm (v3 ||| (sl32 (1 : Int32) v4)) fun x9 =>
        g_X11_loads_22 n M5 v1 v2 x9 (v4 + (1 : Int32))))) else none))
def f_X11_loads (M : MM) (v1 : Int32) : Option (Int32 × MM) :=
  (br (f_X11_isBatten M v1) fun r1 =>
  (if r1 = 0 then
    (some ((-1 : Int32), M))
  else
    (if ib v1 8 = true then
    (nm (M 88 v1.toNatClampNeg) fun x3 =>
    g_X11_loads_22 FU M v1 x3 (0 : Int32) (0 : Int32)) else none)))
def g_X11_weights_22 : Nat → MM → Int32 → Int32 → Int32 → Int32 → Option (Int32 × MM)
  | 0, _, _, _, _, _ => none
  | n + 1, M, v1, v2, v3, v4 =>
    (if (9 : Int32) < v4 then
      (if ib v1 8 = true then nm (up2 M 89 v1.toNatClampNeg v2) fun M4 =>
      (some (v3, M4)) else none)
    else
      (if ib v1 8 = true then nm (up2 M 89 v1.toNatClampNeg v4) fun M5 =>
      (br (f_X11_areSo M5) fun r6 =>
      (if r6 = 0 then
        (nm (v3 ||| (0 : Int32)) fun x8 =>
        g_X11_weights_22 n M5 v1 v2 x8 (v4 + (1 : Int32)))
      else
        (nm (v3 ||| (sl32 (1 : Int32) v4)) fun x9 =>
        g_X11_weights_22 n M5 v1 v2 x9 (v4 + (1 : Int32))))) else none))
def f_X11_weights (M : MM) (v1 : Int32) : Option (Int32 × MM) :=
  (br (f_X11_isBatten M v1) fun r1 =>
  (if r1 = 0 then
    (some ((-1 : Int32), M))
  else
    (if ib v1 8 = true then
    (nm (M 89 v1.toNatClampNeg) fun x3 =>
    g_X11_weights_22 FU M v1 x3 (0 : Int32) (0 : Int32)) else none)))
def g_X11_kinds_22 : Nat → MM → Int32 → Int32 → Int32 → Int32 → Option (Int32 × MM)
  | 0, _, _, _, _, _ => none
  | n + 1, M, v1, v2, v3, v4 =>
    (if (3 : Int32) ≤ v4 then
      (if ib v1 8 = true then nm (up2 M 87 v1.toNatClampNeg v2) fun M4 =>
      (some (v3, M4)) else none)
    else
      (if ib v1 8 = true then nm (up2 M 87 v1.toNatClampNeg v4) fun M5 =>
      (br (f_X11_areSo M5) fun r6 =>
      (if r6 = 0 then
        (nm (v3 ||| (0 : Int32)) fun x8 =>
        g_X11_kinds_22 n M5 v1 v2 x8 (v4 + (1 : Int32)))
      else
        (nm (v3 ||| (sl32 (1 : Int32) v4)) fun x9 =>
        g_X11_kinds_22 n M5 v1 v2 x9 (v4 + (1 : Int32))))) else none))
def f_X11_kinds (M : MM) (v1 : Int32) : Option (Int32 × MM) :=
  (br (f_X11_isBatten M v1) fun r1 =>
  (if r1 = 0 then
    (some ((-1 : Int32), M))
  else
    (if ib v1 8 = true then
    (nm (M 87 v1.toNatClampNeg) fun x3 =>
    g_X11_kinds_22 FU M v1 x3 (0 : Int32) (0 : Int32)) else none)))
def g_X11_inLeastTerms_6 (M : MM) : Nat → Int64 → Int64 → Int32 → Int64 → Int64 → Option Int64
  | 0, _, _, _, _, _ => none
  | n + 1, v0, v2, v4, v5, v7 =>
    (if (lg_cmp v7 (0 : Int64)) = 0 then
      (if v4 = 0 then
        (if v5 = 0 then none else
        (some (v0 / v5)))
      else
        (if v5 = 0 then none else
        (some (v2 / v5))))
    else
      (if v7 = 0 then none else
      g_X11_inLeastTerms_6 M n v0 v2 v4 v7 (rm64 v5 v7)))
def f_X11_inLeastTerms (M : MM) (v0 : Int64) (v2 : Int64) (v4 : Int32) : Option Int64 :=
  g_X11_inLeastTerms_6 M FU v0 v2 v4 v0 v2
def g_X11_odds_44 (rec30 : MM → Int32 → Int32 → Int32 → Int32 → Option (Int64 × MM)) : Nat → MM → Int32 → Int32 → Int32 → Int32 → Int32 → Option (Int64 × MM)
  | 0, _, _, _, _, _, _ => none
  | n + 1, M, v1, v2, v3, v4, v5 =>
    (if (M 83 5) ≤ v5 then
      (br (f_X11_seenNow M) fun r13 =>
      (nm (v3 + ((sr32 r13 v1) &&& (1 : Int32))) fun x15 =>
      rec30 M v1 v2 x15 (v4 + (1 : Int32))))
    else
      (if ((sr32 v4 v5) &&& (1 : Int32)) = (1 : Int32) then
        (if ib v5 8 = true then nm (up2 M 90 v5.toNatClampNeg (9 : Int32)) fun M17 =>
        g_X11_odds_44 rec30 n M17 v1 v2 v3 v4 (v5 + (1 : Int32)) else none)
      else
        (if ib v5 8 = true then nm (up2 M 90 v5.toNatClampNeg (0 : Int32)) fun M16 =>
        g_X11_odds_44 rec30 n M16 v1 v2 v3 v4 (v5 + (1 : Int32)) else none)))
def g_X11_odds_30 : Nat → MM → Int32 → Int32 → Int32 → Int32 → Option (Int64 × MM)
  | 0, _, _, _, _, _ => none
  | n + 1, M, v1, v2, v3, v4 =>
    (if (sl32 (1 : Int32) (M 83 5)) ≤ v4 then
      (br (f_X11_putHeights M) fun M9 =>
      (br (f_X11_inLeastTerms M9 ((v3).toInt64) (sl64 (1 : Int64) (M9 83 5)) v2) fun r11 =>
      (some (r11, M9))))
    else
      g_X11_odds_44 (g_X11_odds_30 n) FU M v1 v2 v3 v4 (0 : Int32))
def f_X11_odds (M : MM) (v1 : Int32) (v2 : Int32) : Option (Int64 × MM) :=
  (br (f_X11_isBatten M v1) fun r1 =>
  (if r1 = 0 then
    (some ((-9223372036854775808 : Int64), M))
  else
    (br (f_X11_within M v2 (0 : Int32) (1 : Int32)) fun r3 =>
    (if r3 = 0 then
      (some ((-9223372036854775808 : Int64), M))
    else
      (br (f_X11_keepHeights M) fun M6 =>
      g_X11_odds_30 FU M6 v1 v2 (0 : Int32) (0 : Int32))))))
def g_X11_sheet_57 : Nat → MM → Int32 → Int32 → Option (Int32 × MM)
  | 0, _, _, _ => none
  | n + 1, M, v1, v4 =>
    (if (60 : Int32) ≤ v4 then
      (some ((1 : Int32), M))
    else
      (if ib (((60 : Int32) * v1) + v4) 240 = true then nm (up2 M 86 (((60 : Int32) * v1) + v4).toNatClampNeg (0 : Int32)) fun M11 =>
      g_X11_sheet_57 n M11 v1 (v4 + (1 : Int32)) else none))
def f_X11_sheet (M : MM) (v1 : Int32) (v2 : Int32) (v3 : Int32) : Option (Int32 × MM) :=
  (nm (up2 M 83 0 (0 : Int32)) fun M1 =>
  (br (f_X11_isSheet M1 v1) fun r2 =>
  (if r2 = 0 then
    (some ((-1 : Int32), M1))
  else
    (br (f_X11_isSort M1 v2) fun r4 =>
    (if r4 = 0 then
      (some ((-2 : Int32), M1))
    else
      (if v3 ≤ (60 : Int32) then
        (if 0 ≤ v3 then
          (if ib v1 4 = true then nm (up2 M1 84 v1.toNatClampNeg v2) fun M6 =>
          (if ib v1 4 = true then nm (up2 M6 85 v1.toNatClampNeg v3) fun M7 =>
          g_X11_sheet_57 FU M7 v1 (0 : Int32) else none) else none)
        else
          (bi (f_X11_fails M1 (4 : Int32)) fun r8 M9 =>
          (some (r8, M9))))
      else
        (some ((-2 : Int32), M1))))))))
def g_X11_lose_25 (M : MM) (v1 : Int32) (s0 : Int32) : Option (Int32 × MM) :=
  (if ib v1 4 = true then nm (up2 M 84 v1.toNatClampNeg (-9 : Int32)) fun M3 =>
  (some (s0, M3)) else none)
def f_X11_lose (M : MM) (v1 : Int32) : Option (Int32 × MM) :=
  (br (f_X11_isSheet M v1) fun r1 =>
  (if r1 = 0 then
    (some ((-1 : Int32), M))
  else
    (if ib v1 4 = true then
    (if (M 84 v1.toNatClampNeg) = (-9 : Int32) then
      g_X11_lose_25 M v1 (0 : Int32)
    else
      g_X11_lose_25 M v1 (1 : Int32)) else none)))
def f_X11_put (M : MM) (v1 : Int32) (v2 : Int32) (v3 : Int32) : Option (Int32 × MM) :=
  (nm (up2 M 83 0 (0 : Int32)) fun M1 =>
  (br (f_X11_isSheet M1 v1) fun r2 =>
  (if r2 = 0 then
    (some ((-1 : Int32), M1))
  else
    (if ib v1 4 = true then
    (if (M1 84 v1.toNatClampNeg) = (-9 : Int32) then
      (bi (f_X11_fails M1 (1 : Int32)) fun r12 M13 =>
      (some (r12, M13)))
    else
      (if ib v1 4 = true then
      (br (f_X11_within M1 v2 (0 : Int32) ((M1 85 v1.toNatClampNeg) - (1 : Int32))) fun r4 =>
      (if r4 = 0 then
        (bi (f_X11_fails M1 (3 : Int32)) fun r9 M10 =>
        (some (r9, M10)))
      else
        (if ib v1 4 = true then
        (if (M1 84 v1.toNatClampNeg) = 0 then
          (if ib (((60 : Int32) * v1) + v2) 240 = true then nm (up2 M1 86 (((60 : Int32) * v1) + v2).toNatClampNeg (ib8 v3)) fun M8 =>
          (some ((1 : Int32), M8)) else none)
        else
          (if ib v1 4 = true then
          (if (M1 84 v1.toNatClampNeg) = (1 : Int32) then
            (if ib (((60 : Int32) * v1) + v2) 240 = true then nm (up2 M1 86 (((60 : Int32) * v1) + v2).toNatClampNeg (ib16 v3)) fun M7 =>
            (some ((1 : Int32), M7)) else none)
          else
            (if ib (((60 : Int32) * v1) + v2) 240 = true then nm (up2 M1 86 (((60 : Int32) * v1) + v2).toNatClampNeg v3) fun M6 =>
            (some ((1 : Int32), M6)) else none)) else none)) else none))) else none)) else none))))
def g_X11_cell_50 (M : MM) (v1 : Int32) (v2 : Int32) : Option (Int64 × MM) :=
  (if ib v1 4 = true then
  (if (M 84 v1.toNatClampNeg) = (-9 : Int32) then
    (bl (f_X11_lost M (1 : Int32)) fun r14 M15 =>
    (some (r14, M15)))
  else
    (if ib v1 4 = true then
    (br (f_X11_within M v2 (0 : Int32) ((M 85 v1.toNatClampNeg) - (1 : Int32))) fun r9 =>
    (if r9 = 0 then
      (bl (f_X11_lost M (3 : Int32)) fun r11 M12 =>
      (some (r11, M12)))
    else
      (if ib (((60 : Int32) * v1) + v2) 240 = true then
      (some (((M 86 (((60 : Int32) * v1) + v2).toNatClampNeg)).toInt64, M)) else none))) else none)) else none)
def f_X11_cell (M : MM) (v1 : Int32) (v2 : Int32) (v3 : Int32) : Option (Int64 × MM) :=
  (nm (up2 M 83 0 (0 : Int32)) fun M1 =>
  (br (f_X11_isSheet M1 v1) fun r2 =>
  (if r2 = 0 then
    (some ((-9223372036854775808 : Int64), M1))
  else
    (br (f_X11_isSort M1 v3) fun r4 =>
    (if r4 = 0 then
      (some ((-9223372036854775808 : Int64), M1))
    else
      (if ib v1 4 = true then
      (if (M1 84 v1.toNatClampNeg) = (-9 : Int32) then
        g_X11_cell_50 M1 v1 v2
      else
        (if ib v1 4 = true then
        (if (M1 84 v1.toNatClampNeg) = v3 then
          g_X11_cell_50 M1 v1 v2
        else
          (bl (f_X11_lost M1 (2 : Int32)) fun r6 M7 =>
          (some (r6, M7)))) else none)) else none))))))
def g_X11_copy_190 (rec166 : MM → Int32 → Int32 → Int32 → Int32 → Int32 → Int32 → Int32 → Option (Int32 × MM)) (M : MM) (v1 : Int32) (v2 : Int32) (v3 : Int32) (v4 : Int32) (v5 : Int32) (v7 : Int32) (v8 : Int32) (s0 : Int32) : Option (Int32 × MM) :=
  (if ib ((((60 : Int32) * v1) + v2) + s0) 240 = true then
  (if ib ((((60 : Int32) * v3) + v4) + s0) 240 = true then nm (up2 M 86 ((((60 : Int32) * v3) + v4) + s0).toNatClampNeg (M 86 ((((60 : Int32) * v1) + v2) + s0).toNatClampNeg)) fun M24 =>
  rec166 M24 v1 v2 v3 v4 v5 v7 (v8 + (1 : Int32)) else none) else none)
def g_X11_copy_166 : Nat → MM → Int32 → Int32 → Int32 → Int32 → Int32 → Int32 → Int32 → Option (Int32 × MM)
  | 0, _, _, _, _, _, _, _, _ => none
  | n + 1, M, v1, v2, v3, v4, v5, v7, v8 =>
    (if v5 ≤ v8 then
      (some (v5, M))
    else
      (if v7 = 0 then
        g_X11_copy_190 (g_X11_copy_166 n) M v1 v2 v3 v4 v5 v7 v8 v8
      else
        g_X11_copy_190 (g_X11_copy_166 n) M v1 v2 v3 v4 v5 v7 v8 ((v5 - (1 : Int32)) - v8)))
def g_X11_copy_110 (M : MM) (v1 : Int32) (v2 : Int32) (v3 : Int32) (v4 : Int32) (v5 : Int32) (s0 : Int32) : Option (Int32 × MM) :=
  (if s0 = 0 then
    (bi (f_X11_fails M (3 : Int32)) fun r15 M16 =>
    (some (r15, M16)))
  else
    (if ib v1 4 = true then
    (if ((M 85 v1.toNatClampNeg) - v2) < v5 then
      (bi (f_X11_fails M (3 : Int32)) fun r18 M19 =>
      (some (r18, M19)))
    else
      (if ib v3 4 = true then
      (if v5 ≤ ((M 85 v3.toNatClampNeg) - v4) then
        (if v4 ≤ v2 then
          g_X11_copy_166 FU M v1 v2 v3 v4 v5 (0 : Int32) (0 : Int32)
        else
          g_X11_copy_166 FU M v1 v2 v3 v4 v5 (1 : Int32) (0 : Int32))
      else
        (bi (f_X11_fails M (3 : Int32)) fun r21 M22 =>
        (some (r21, M22)))) else none)) else none))
def f_X11_copy (M : MM) (v1 : Int32) (v2 : Int32) (v3 : Int32) (v4 : Int32) (v5 : Int32) : Option (Int32 × MM) :=
  (nm (up2 M 83 0 (0 : Int32)) fun M1 =>
  (br (f_X11_isSheet M1 v1) fun r2 =>
  (if r2 = 0 then
    (some ((-1 : Int32), M1))
  else
    (br (f_X11_isSheet M1 v3) fun r4 =>
    (if r4 = 0 then
      (some ((-1 : Int32), M1))
    else
      (if ib v1 4 = true then
      (if (M1 84 v1.toNatClampNeg) = (-9 : Int32) then
        (bi (f_X11_fails M1 (1 : Int32)) fun r6 M7 =>
        (some (r6, M7)))
      else
        (if ib v3 4 = true then
        (if (M1 84 v3.toNatClampNeg) = (-9 : Int32) then
          (bi (f_X11_fails M1 (1 : Int32)) fun r12 M13 =>
          (some (r12, M13)))
        else
          (if ib v1 4 = true then
          (if ib v3 4 = true then
          (if (M1 84 v1.toNatClampNeg) = (M1 84 v3.toNatClampNeg) then
            (if v2 < 0 then
              g_X11_copy_110 M1 v1 v2 v3 v4 v5 (0 : Int32)
            else
              (if v4 < 0 then
                g_X11_copy_110 M1 v1 v2 v3 v4 v5 (0 : Int32)
              else
                (if v5 < 0 then
                  g_X11_copy_110 M1 v1 v2 v3 v4 v5 (0 : Int32)
                else
                  (if ib v1 4 = true then
                  (if (M1 85 v1.toNatClampNeg) < v2 then
                    g_X11_copy_110 M1 v1 v2 v3 v4 v5 (0 : Int32)
                  else
                    (if ib v3 4 = true then
                    (if (M1 85 v3.toNatClampNeg) < v4 then
                      g_X11_copy_110 M1 v1 v2 v3 v4 v5 (0 : Int32)
                    else
                      g_X11_copy_110 M1 v1 v2 v3 v4 v5 (1 : Int32)) else none)) else none))))
          else
            (bi (f_X11_fails M1 (2 : Int32)) fun r9 M10 =>
            (some (r9, M10)))) else none) else none)) else none)) else none))))))
def f_X11_begins (M : MM) (v1 : Int32) : Option MM :=
  (nm (up2 M 83 1 (((31 : Int32) * (M 83 1)) + v1)) fun M1 =>
  (some M1))
def f_X11_tell (M : MM) (v1 : Int32) : Option (Int32 × MM) :=
  (br (f_X11_isBatten M v1) fun r1 =>
  (if r1 = 0 then
    (some ((-1 : Int32), M))
  else
    (if ib v1 8 = true then
    (nm (M 88 v1.toNatClampNeg) fun x3 =>
    (if ib v1 8 = true then
    (if (M 87 v1.toNatClampNeg) = 1 then
      (br (f_X11_begins M (2 : Int32)) fun M5 =>
      (br (f_X11_begins M5 (1 : Int32)) fun M8 =>
      (some ((x3 + (100 : Int32)), M8))))
    else
    (if (M 87 v1.toNatClampNeg) = 2 then
      (br (f_X11_begins M (3 : Int32)) fun M12 =>
      (br (f_X11_begins M12 (2 : Int32)) fun M15 =>
      (br (f_X11_begins M15 (1 : Int32)) fun M18 =>
      (br (f_X11_begins M18 (1 : Int32)) fun M21 =>
      (some ((((2 : Int32) * x3) + (100 : Int32)), M21))))))
    else
    (br (f_X11_begins M (1 : Int32)) fun M25 =>
    (some (x3, M25))))) else none)) else none)))
def g_X11_call_26 (M : MM) (v1 : Int32) (s0 : Int32) : Option (Int32 × MM) :=
  (br (f_X11_begins M s0) fun M4 =>
  (if ib v1 8 = true then
  (if (M4 87 v1.toNatClampNeg) = (2 : Int32) then
    (some ((40 : Int32), M4))
  else
    (some (v1, M4))) else none))
def f_X11_call (M : MM) (v1 : Int32) : Option (Int32 × MM) :=
  (br (f_X11_isBatten M v1) fun r1 =>
  (if r1 = 0 then
    (some ((-1 : Int32), M))
  else
    (if ib v1 8 = true then
    (if (M 87 v1.toNatClampNeg) = (2 : Int32) then
      g_X11_call_26 M v1 (5 : Int32)
    else
      g_X11_call_26 M v1 (4 : Int32)) else none)))
def f_X11_as (M : MM) (v1 : Int32) (v2 : Int32) : Option (Int32 × MM) :=
  (nm (up2 M 83 0 (0 : Int32)) fun M1 =>
  (br (f_X11_isBatten M1 v1) fun r2 =>
  (if r2 = 0 then
    (some ((-1 : Int32), M1))
  else
    (br (f_X11_within M1 v2 (0 : Int32) (2 : Int32)) fun r4 =>
    (if r4 = 0 then
      (some ((-2 : Int32), M1))
    else
      (if ib v1 8 = true then
      (if (M1 87 v1.toNatClampNeg) < v2 then
        (bi (f_X11_fails M1 (2 : Int32)) fun r6 M7 =>
        (some (r6, M7)))
      else
        (some ((1 : Int32), M1))) else none))))))
def f_X11_trace (M : MM) : Option Int32 :=
  (some (M 83 1))
def f_X11_fault (M : MM) : Option Int32 :=
  (some (M 83 0))
def f_X11_many (M : MM) (v1 : Int32) : Option Int32 :=
  (if v1 = 0 then
    (some (M 83 5))
  else
  (if v1 = 1 then
    (some (M 83 6))
  else
  (if v1 = 2 then
    (some (M 83 7))
  else
  (if v1 = 3 then
    (some (M 83 8))
  else
  (if v1 = 4 then
    (some (M 83 21))
  else
  (if v1 = 5 then
    (some (M 83 35))
  else
  (some (-2 : Int32))))))))
