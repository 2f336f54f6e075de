theorem mi_X11_canBe_11 : ∀ w ∈ u_ws RX11 TX11 39, w ∈ wsX11_canBe := by decide +kernel
theorem mf_X11_canBe_87 : MF wsX11_canBe RX11 87 10 5 := ⟨RX11, TX11, 39, rfl, by decide, mi_X11_canBe_11, by decide +kernel⟩
theorem mf_X11_canBe_117 : MF wsX11_canBe RX11 117 10 6 := ⟨RX11, TX11, 39, rfl, by decide, mi_X11_canBe_11, by decide +kernel⟩
theorem mf_X11_canBe_37 : MF wsX11_canBe RX11 37 10 20 := ⟨RX11, TX11, 39, rfl, by decide, mi_X11_canBe_11, by decide +kernel⟩
theorem mf_X11_canBe_28 : MF wsX11_canBe RX11 28 10 12 := ⟨RX11, TX11, 39, rfl, by decide, mi_X11_canBe_11, by decide +kernel⟩
abbrev rm_X11_canBe : Room := { frames := 1, cells := 0, slots := 0, locals := 22 }
set_option maxHeartbeats 4000000 in
set_option maxRecDepth 100000 in
theorem t_X11_canBe_57 {p : Program} {l : Launch} {e : Env} {s : State} {m : MethodId} {args : Array Value} {below : List Frame} {meth : Method} {c : Code} {X : GE} {M : MM} {r : Int32} (S : CX p s m args meth c cX11_canBe 3 wsX11_canBe RX11 (some .boolean) X) : ∀ (n : Nat) (v2 : Int32) (h : g_X11_canBe_57 M n v2 = some r), V p l e (headSpec wsX11_canBe rm_X11_canBe).room s m args below meth c 3 X (MQ below (gQi X r M) args s 0 0 (gA X)) M 57 [(0, .ref (X.2.2 83)), (2, .int v2)] [] := by
  intro n
  induction n with
  | zero =>
    intro v2 h
    rw [g_X11_canBe_57] at h
    cases h
  | succ n ih =>
    intro v2 h
    rw [g_X11_canBe_57] at h
    refine gv_iload_n 57 S 2 1 dX11_canBe_57 rfl rfl ?_
    refine gv_aload_n 58 S 0 0 dX11_canBe_58 rfl rfl ?_
    refine gv_get 59 S (hF_83_battens X) mf_X11_canBe_87 dX11_canBe_59 ?_
    refine gv_iconst 62 S (1 : Int32) dX11_canBe_62 (by decide) ?_
    refine gv_isub 63 S dX11_canBe_63 ?_
    refine gv_icmp_ge 64 S 83 h dX11_canBe_64 (by decide) (fun h => ?_) (fun h => ?_)
    · refine gv_iconst 83 S (1 : Int32) dX11_canBe_83 (by decide) ?_
      exact gv_zretR 84 S h rfl dX11_canBe_84
    · refine gv_aload_n 67 S 0 0 dX11_canBe_67 rfl rfl ?_
      refine gv_iload_n 68 S 2 1 dX11_canBe_68 rfl rfl ?_
      obtain ⟨r5, hc6, h⟩ := br_some h
      refine gv_cVi 69 S (As := [.int v2]) (rest := []) (c_X11_fouls l X M v2 r5 hc6) (hO_83 X) rfl (cwV 1 S.1.2.2.2.2 gX11_canBe_X11_fouls rfl rfl rfl (by decide +kernel) ⟨Nat.le_of_ble_eq_true rfl, Nat.le_of_ble_eq_true rfl⟩) rfl rfl (Nat.le_of_ble_eq_true rfl) dX11_canBe_69 ?_
      refine gv_if_eq 72 S 77 h dX11_canBe_72 (by decide) (fun h => ?_) (fun h => ?_)
      · refine gv_iinc 77 S 1 (v2 + (1 : Int32)) (lv' := [(2, .int (v2 + (1 : Int32))), (0, .ref (X.2.2 83))]) dX11_canBe_77 rfl rfl (Nat.le_of_ble_eq_true rfl) rfl ?_
        refine gv_goto 80 S 57 dX11_canBe_80 (by decide) ?_
        exact gv_sub [1, 0] rfl (ih (v2 + (1 : Int32)) h)
      · refine gv_iconst 75 S (0 : Int32) dX11_canBe_75 (by decide) ?_
        exact gv_zretR 76 S h rfl dX11_canBe_76
set_option maxHeartbeats 4000000 in
set_option maxRecDepth 100000 in
theorem t_X11_canBe_4 {p : Program} {l : Launch} {e : Env} {s : State} {m : MethodId} {args : Array Value} {below : List Frame} {meth : Method} {c : Code} {X : GE} {M : MM} {r : Int32} (S : CX p s m args meth c cX11_canBe 3 wsX11_canBe RX11 (some .boolean) X) : ∀ (n : Nat) (v1 : Int32) (v2 : Int32) (h : g_X11_canBe_4 M n v1 v2 = some r), V p l e (headSpec wsX11_canBe rm_X11_canBe).room s m args below meth c 3 X (MQ below (gQi X r M) args s 0 0 (gA X)) M 4 [(0, .ref (X.2.2 83)), (1, .int v1), (2, .int v2)] [] := by
  intro n
  induction n with
  | zero =>
    intro v1 v2 h
    rw [g_X11_canBe_4] at h
    cases h
  | succ n ih =>
    intro v1 v2 h
    rw [g_X11_canBe_4] at h
    refine gv_iload_n 4 S 2 2 dX11_canBe_4 rfl rfl ?_
    refine gv_aload_n 5 S 0 0 dX11_canBe_5 rfl rfl ?_
    refine gv_get 6 S (hF_83_battens X) mf_X11_canBe_87 dX11_canBe_6 ?_
    refine gv_icmp_ge 9 S 45 h dX11_canBe_9 (by decide) (fun h => ?_) (fun h => ?_)
    · refine gv_iload_n 45 S 1 1 dX11_canBe_45 rfl rfl ?_
      refine gv_aload_n 46 S 0 0 dX11_canBe_46 rfl rfl ?_
      refine gv_get 47 S (hF_83_hands X) mf_X11_canBe_117 dX11_canBe_47 ?_
      refine gv_icmp_le 50 S 55 h dX11_canBe_50 (by decide) (fun h => ?_) (fun h => ?_)
      · refine gv_iconst 55 S (0 : Int32) dX11_canBe_55 (by decide) ?_
        refine gv_istore_n 56 S 2 (lv' := [(2, .int (0 : Int32)), (0, .ref (X.2.2 83)), (1, .int v1)]) dX11_canBe_56 rfl (Nat.le_of_ble_eq_true rfl) rfl ?_
        exact gv_sub [1, 0] rfl (t_X11_canBe_57 S FU (0 : Int32) h)
      · refine gv_iconst 53 S (0 : Int32) dX11_canBe_53 (by decide) ?_
        exact gv_zretR 54 S h rfl dX11_canBe_54
    · refine gv_iload_n 12 S 1 1 dX11_canBe_12 rfl rfl ?_
      refine gv_aload_n 13 S 0 0 dX11_canBe_13 rfl rfl ?_
      refine gv_get 14 S (hF_83_goal X) mf_X11_canBe_37 dX11_canBe_14 ?_
      refine gv_iload_n 17 S 2 2 dX11_canBe_17 rfl rfl ?_
      refine gv_iald 18 S h (hI_93 X) dX11_canBe_18 (fun h => ?_)
      refine gv_aload_n 19 S 0 0 dX11_canBe_19 rfl rfl ?_
      refine gv_get 20 S (hF_83_height X) mf_X11_canBe_28 dX11_canBe_20 ?_
      refine gv_iload_n 23 S 2 2 dX11_canBe_23 rfl rfl ?_
      refine gv_iald 24 S h (hI_90 X) dX11_canBe_24 (fun h => ?_)
      refine gv_icmp_ne 25 S 32 h dX11_canBe_25 (by decide) (fun h => ?_) (fun h => ?_)
      · refine gv_aload_n 32 S 0 0 dX11_canBe_32 rfl rfl ?_
        refine gv_iload_n 33 S 2 2 dX11_canBe_33 rfl rfl ?_
        obtain ⟨r1, hc2, h⟩ := br_some h
        refine gv_cVi 34 S (As := [.int v2]) (rest := [.int v1]) (c_X11_pullOf l X M v2 r1 hc2) (hO_83 X) rfl (cwV 1 S.1.2.2.2.2 gX11_canBe_X11_pullOf rfl rfl rfl (by decide +kernel) ⟨Nat.le_of_ble_eq_true rfl, Nat.le_of_ble_eq_true rfl⟩) rfl rfl (Nat.le_of_ble_eq_true rfl) dX11_canBe_34 ?_
        refine gv_iadd 37 S dX11_canBe_37 ?_
        refine gv_nmi h (fun x3 h => ?_)
        refine gv_istore_n 38 S 1 (lv' := [(1, .int x3), (0, .ref (X.2.2 83)), (2, .int v2)]) dX11_canBe_38 rfl (Nat.le_of_ble_eq_true rfl) rfl ?_
        refine gv_iinc 39 S 2 (v2 + (1 : Int32)) (lv' := [(2, .int (v2 + (1 : Int32))), (1, .int x3), (0, .ref (X.2.2 83))]) dX11_canBe_39 rfl rfl (Nat.le_of_ble_eq_true rfl) rfl ?_
        refine gv_goto 42 S 4 dX11_canBe_42 (by decide) ?_
        exact gv_sub [2, 1, 0] rfl (ih x3 (v2 + (1 : Int32)) h)
      · refine gv_iconst 28 S (0 : Int32) dX11_canBe_28 (by decide) ?_
        refine gv_goto 29 S 37 dX11_canBe_29 (by decide) ?_
        refine gv_iadd 37 S dX11_canBe_37 ?_
        refine gv_nmi h (fun x4 h => ?_)
        refine gv_istore_n 38 S 1 (lv' := [(1, .int x4), (0, .ref (X.2.2 83)), (2, .int v2)]) dX11_canBe_38 rfl (Nat.le_of_ble_eq_true rfl) rfl ?_
        refine gv_iinc 39 S 2 (v2 + (1 : Int32)) (lv' := [(2, .int (v2 + (1 : Int32))), (1, .int x4), (0, .ref (X.2.2 83))]) dX11_canBe_39 rfl rfl (Nat.le_of_ble_eq_true rfl) rfl ?_
        refine gv_goto 42 S 4 dX11_canBe_42 (by decide) ?_
        exact gv_sub [2, 1, 0] rfl (ih x4 (v2 + (1 : Int32)) h)
set_option maxHeartbeats 4000000 in
set_option maxRecDepth 100000 in
theorem c_X11_canBe (l : Launch) (X : GE) (M : MM) (r : Int32) (h : f_X11_canBe M = some r) : CTi l yX11_canBe wsX11_canBe rm_X11_canBe X [.ref (X.2.2 83)] M r M := by
  refine ct_i (own := RX11) (by decide +kernel) rfl rfl (Nat.le_of_ble_eq_true rfl) (lv0 := [(0, .ref (X.2.2 83))]) rfl ?_
  intro p e s m args below meth c S
  unfold f_X11_canBe at h
  refine gv_iconst 0 S (0 : Int32) dX11_canBe_0 (by decide) ?_
  refine gv_istore_n 1 S 1 (lv' := [(1, .int (0 : Int32)), (0, .ref (X.2.2 83))]) dX11_canBe_1 rfl (Nat.le_of_ble_eq_true rfl) rfl ?_
  refine gv_iconst 2 S (0 : Int32) dX11_canBe_2 (by decide) ?_
  refine gv_istore_n 3 S 2 (lv' := [(2, .int (0 : Int32)), (1, .int (0 : Int32)), (0, .ref (X.2.2 83))]) dX11_canBe_3 rfl (Nat.le_of_ble_eq_true rfl) rfl ?_
  exact gv_sub [2, 1, 0] rfl (t_X11_canBe_4 S FU (0 : Int32) (0 : Int32) h)
theorem mi_X11_beats_11 : ∀ w ∈ u_ws RX11 TX11 39, w ∈ wsX11_beats := by decide +kernel
theorem mf_X11_beats_87 : MF wsX11_beats RX11 87 10 5 := ⟨RX11, TX11, 39, rfl, by decide, mi_X11_beats_11, by decide +kernel⟩
theorem mf_X11_beats_28 : MF wsX11_beats RX11 28 10 12 := ⟨RX11, TX11, 39, rfl, by decide, mi_X11_beats_11, by decide +kernel⟩
theorem mf_X11_beats_37 : MF wsX11_beats RX11 37 10 20 := ⟨RX11, TX11, 39, rfl, by decide, mi_X11_beats_11, by decide +kernel⟩
abbrev rm_X11_beats : Room := { frames := 1, cells := 0, slots := 0, locals := 21 }
set_option maxHeartbeats 4000000 in
set_option maxRecDepth 100000 in
theorem t_X11_beats_4 {p : Program} {l : Launch} {e : Env} {s : State} {m : MethodId} {args : Array Value} {below : List Frame} {meth : Method} {c : Code} {X : GE} {M : MM} {r : Int32} (S : CX p s m args meth c cX11_beats 4 wsX11_beats RX11 (some .int) X) : ∀ (n : Nat) (v1 : Int32) (v2 : Int32) (h : g_X11_beats_4 M n v1 v2 = some r), V p l e (headSpec wsX11_beats rm_X11_beats).room s m args below meth c 4 X (MQ below (gQi X r M) args s 0 0 (gA X)) M 4 [(0, .ref (X.2.2 83)), (1, .int v1), (2, .int v2)] [] := by
  intro n
  induction n with
  | zero =>
    intro v1 v2 h
    rw [g_X11_beats_4] at h
    cases h
  | succ n ih =>
    intro v1 v2 h
    rw [g_X11_beats_4] at h
    refine gv_iload_n 4 S 2 2 dX11_beats_4 rfl rfl ?_
    refine gv_aload_n 5 S 0 0 dX11_beats_5 rfl rfl ?_
    refine gv_get 6 S (hF_83_battens X) mf_X11_beats_87 dX11_beats_6 ?_
    refine gv_icmp_ge 9 S 45 h dX11_beats_9 (by decide) (fun h => ?_) (fun h => ?_)
    · refine gv_iload_n 45 S 1 1 dX11_beats_45 rfl rfl ?_
      exact gv_iretR 46 S h dX11_beats_46
    · refine gv_aload_n 12 S 0 0 dX11_beats_12 rfl rfl ?_
      refine gv_get 13 S (hF_83_height X) mf_X11_beats_28 dX11_beats_13 ?_
      refine gv_iload_n 16 S 2 2 dX11_beats_16 rfl rfl ?_
      refine gv_iald 17 S h (hI_90 X) dX11_beats_17 (fun h => ?_)
      refine gv_aload_n 18 S 0 0 dX11_beats_18 rfl rfl ?_
      refine gv_get 19 S (hF_83_goal X) mf_X11_beats_37 dX11_beats_19 ?_
      refine gv_iload_n 22 S 2 2 dX11_beats_22 rfl rfl ?_
      refine gv_iald 23 S h (hI_93 X) dX11_beats_23 (fun h => ?_)
      obtain ⟨r1, hc2, h⟩ := br_some h
      refine gv_cSi 24 S (As := [.int (M 90 v2.toNatClampNeg), .int (M 93 v2.toNatClampNeg)]) (rest := []) (c_X11_apart l X M (M 90 v2.toNatClampNeg) (M 93 v2.toNatClampNeg) r1 hc2) (va_cwS 2 S.1.2.2.2.2 gX11_beats_X11_apart rfl rfl rfl (by decide +kernel) ⟨Nat.le_of_ble_eq_true rfl, Nat.le_of_ble_eq_true rfl⟩) rfl rfl (Nat.le_of_ble_eq_true rfl) dX11_beats_24 ?_
      refine gv_istore_n 27 S 3 (lv' := [(3, .int r1), (0, .ref (X.2.2 83)), (1, .int v1), (2, .int v2)]) dX11_beats_27 rfl (Nat.le_of_ble_eq_true rfl) rfl ?_
      refine gv_iload_n 28 S 3 0 dX11_beats_28 rfl rfl ?_
      refine gv_iload_n 29 S 1 2 dX11_beats_29 rfl rfl ?_
      refine gv_icmp_le 30 S 37 h dX11_beats_30 (by decide) (fun h => ?_) (fun h => ?_)
      · refine gv_iload_n 37 S 1 2 dX11_beats_37 rfl rfl ?_
        refine gv_istore_n 38 S 1 (lv' := [(1, .int v1), (3, .int r1), (0, .ref (X.2.2 83)), (2, .int v2)]) dX11_beats_38 rfl (Nat.le_of_ble_eq_true rfl) rfl ?_
        refine gv_iinc 39 S 3 (v2 + (1 : Int32)) (lv' := [(2, .int (v2 + (1 : Int32))), (1, .int v1), (3, .int r1), (0, .ref (X.2.2 83))]) dX11_beats_39 rfl rfl (Nat.le_of_ble_eq_true rfl) rfl ?_
        refine gv_goto 42 S 4 dX11_beats_42 (by decide) ?_
        exact gv_sub [3, 1, 0] rfl (ih v1 (v2 + (1 : Int32)) h)
      · refine gv_iload_n 33 S 3 0 dX11_beats_33 rfl rfl ?_
        refine gv_goto 34 S 38 dX11_beats_34 (by decide) ?_
        refine gv_istore_n 38 S 1 (lv' := [(1, .int r1), (3, .int r1), (0, .ref (X.2.2 83)), (2, .int v2)]) dX11_beats_38 rfl (Nat.le_of_ble_eq_true rfl) rfl ?_
        refine gv_iinc 39 S 3 (v2 + (1 : Int32)) (lv' := [(2, .int (v2 + (1 : Int32))), (1, .int r1), (3, .int r1), (0, .ref (X.2.2 83))]) dX11_beats_39 rfl rfl (Nat.le_of_ble_eq_true rfl) rfl ?_
        refine gv_goto 42 S 4 dX11_beats_42 (by decide) ?_
        exact gv_sub [3, 1, 0] rfl (ih r1 (v2 + (1 : Int32)) h)
set_option maxHeartbeats 4000000 in
set_option maxRecDepth 100000 in
theorem c_X11_beats (l : Launch) (X : GE) (M : MM) (r : Int32) (h : f_X11_beats M = some r) : CTi l yX11_beats wsX11_beats rm_X11_beats X [.ref (X.2.2 83)] M r M := by
  refine ct_i (own := RX11) (by decide +kernel) rfl rfl (Nat.le_of_ble_eq_true rfl) (lv0 := [(0, .ref (X.2.2 83))]) rfl ?_
  intro p e s m args below meth c S
  unfold f_X11_beats at h
  refine gv_iconst 0 S (0 : Int32) dX11_beats_0 (by decide) ?_
  refine gv_istore_n 1 S 1 (lv' := [(1, .int (0 : Int32)), (0, .ref (X.2.2 83))]) dX11_beats_1 rfl (Nat.le_of_ble_eq_true rfl) rfl ?_
  refine gv_iconst 2 S (0 : Int32) dX11_beats_2 (by decide) ?_
  refine gv_istore_n 3 S 2 (lv' := [(2, .int (0 : Int32)), (1, .int (0 : Int32)), (0, .ref (X.2.2 83))]) dX11_beats_3 rfl (Nat.le_of_ble_eq_true rfl) rfl ?_
  exact gv_sub [2, 1, 0] rfl (t_X11_beats_4 S FU (0 : Int32) (0 : Int32) h)
theorem mi_X11_effort_11 : ∀ w ∈ u_ws RX11 TX11 39, w ∈ wsX11_effort := by decide +kernel
theorem mf_X11_effort_87 : MF wsX11_effort RX11 87 10 5 := ⟨RX11, TX11, 39, rfl, by decide, mi_X11_effort_11, by decide +kernel⟩
theorem mf_X11_effort_28 : MF wsX11_effort RX11 28 10 12 := ⟨RX11, TX11, 39, rfl, by decide, mi_X11_effort_11, by decide +kernel⟩
theorem mf_X11_effort_37 : MF wsX11_effort RX11 37 10 20 := ⟨RX11, TX11, 39, rfl, by decide, mi_X11_effort_11, by decide +kernel⟩
abbrev rm_X11_effort : Room := { frames := 1, cells := 0, slots := 0, locals := 22 }
set_option maxHeartbeats 4000000 in
set_option maxRecDepth 100000 in
theorem t_X11_effort_4 {p : Program} {l : Launch} {e : Env} {s : State} {m : MethodId} {args : Array Value} {below : List Frame} {meth : Method} {c : Code} {X : GE} {M : MM} {r : Int32} (S : CX p s m args meth c cX11_effort 3 wsX11_effort RX11 (some .int) X) : ∀ (n : Nat) (v1 : Int32) (v2 : Int32) (h : g_X11_effort_4 M n v1 v2 = some r), V p l e (headSpec wsX11_effort rm_X11_effort).room s m args below meth c 3 X (MQ below (gQi X r M) args s 0 0 (gA X)) M 4 [(0, .ref (X.2.2 83)), (1, .int v1), (2, .int v2)] [] := by
  intro n
  induction n with
  | zero =>
    intro v1 v2 h
    rw [g_X11_effort_4] at h
    cases h
  | succ n ih =>
    intro v1 v2 h
    rw [g_X11_effort_4] at h
    refine gv_iload_n 4 S 2 2 dX11_effort_4 rfl rfl ?_
    refine gv_aload_n 5 S 0 0 dX11_effort_5 rfl rfl ?_
    refine gv_get 6 S (hF_83_battens X) mf_X11_effort_87 dX11_effort_6 ?_
    refine gv_icmp_ge 9 S 42 h dX11_effort_9 (by decide) (fun h => ?_) (fun h => ?_)
    · refine gv_iload_n 42 S 1 1 dX11_effort_42 rfl rfl ?_
      exact gv_iretR 43 S h dX11_effort_43
    · refine gv_iload_n 12 S 1 1 dX11_effort_12 rfl rfl ?_
      refine gv_aload_n 13 S 0 0 dX11_effort_13 rfl rfl ?_
      refine gv_iload_n 14 S 2 2 dX11_effort_14 rfl rfl ?_
      obtain ⟨r1, hc2, h⟩ := br_some h
      refine gv_cVi 15 S (As := [.int v2]) (rest := [.int v1]) (c_X11_pullOf l X M v2 r1 hc2) (hO_83 X) rfl (cwV 1 S.1.2.2.2.2 gX11_effort_X11_pullOf rfl rfl rfl (by decide +kernel) ⟨Nat.le_of_ble_eq_true rfl, Nat.le_of_ble_eq_true rfl⟩) rfl rfl (Nat.le_of_ble_eq_true rfl) dX11_effort_15 ?_
      refine gv_aload_n 18 S 0 0 dX11_effort_18 rfl rfl ?_
      refine gv_get 19 S (hF_83_height X) mf_X11_effort_28 dX11_effort_19 ?_
      refine gv_iload_n 22 S 2 2 dX11_effort_22 rfl rfl ?_
      refine gv_iald 23 S h (hI_90 X) dX11_effort_23 (fun h => ?_)
      refine gv_aload_n 24 S 0 0 dX11_effort_24 rfl rfl ?_
      refine gv_get 25 S (hF_83_goal X) mf_X11_effort_37 dX11_effort_25 ?_
      refine gv_iload_n 28 S 2 2 dX11_effort_28 rfl rfl ?_
      refine gv_iald 29 S h (hI_93 X) dX11_effort_29 (fun h => ?_)
      obtain ⟨r3, hc4, h⟩ := br_some h
      refine gv_cSi 30 S (As := [.int (M 90 v2.toNatClampNeg), .int (M 93 v2.toNatClampNeg)]) (rest := [.int r1, .int v1]) (c_X11_apart l X M (M 90 v2.toNatClampNeg) (M 93 v2.toNatClampNeg) r3 hc4) (va_cwS 2 S.1.2.2.2.2 gX11_effort_X11_apart rfl rfl rfl (by decide +kernel) ⟨Nat.le_of_ble_eq_true rfl, Nat.le_of_ble_eq_true rfl⟩) rfl rfl (Nat.le_of_ble_eq_true rfl) dX11_effort_30 ?_
      refine gv_imul 33 S dX11_effort_33 ?_
      refine gv_iadd 34 S dX11_effort_34 ?_
      refine gv_nmi h (fun x5 h => ?_)
      refine gv_istore_n 35 S 1 (lv' := [(1, .int x5), (0, .ref (X.2.2 83)), (2, .int v2)]) dX11_effort_35 rfl (Nat.le_of_ble_eq_true rfl) rfl ?_
      refine gv_iinc 36 S 2 (v2 + (1 : Int32)) (lv' := [(2, .int (v2 + (1 : Int32))), (1, .int x5), (0, .ref (X.2.2 83))]) dX11_effort_36 rfl rfl (Nat.le_of_ble_eq_true rfl) rfl ?_
      refine gv_goto 39 S 4 dX11_effort_39 (by decide) ?_
      exact gv_sub [2, 1, 0] rfl (ih x5 (v2 + (1 : Int32)) h)
set_option maxHeartbeats 4000000 in
set_option maxRecDepth 100000 in
theorem c_X11_effort (l : Launch) (X : GE) (M : MM) (r : Int32) (h : f_X11_effort M = some r) : CTi l yX11_effort wsX11_effort rm_X11_effort X [.ref (X.2.2 83)] M r M := by
  refine ct_i (own := RX11) (by decide +kernel) rfl rfl (Nat.le_of_ble_eq_true rfl) (lv0 := [(0, .ref (X.2.2 83))]) rfl ?_
  intro p e s m args below meth c S
  unfold f_X11_effort at h
  refine gv_iconst 0 S (0 : Int32) dX11_effort_0 (by decide) ?_
  refine gv_istore_n 1 S 1 (lv' := [(1, .int (0 : Int32)), (0, .ref (X.2.2 83))]) dX11_effort_1 rfl (Nat.le_of_ble_eq_true rfl) rfl ?_
  refine gv_iconst 2 S (0 : Int32) dX11_effort_2 (by decide) ?_
  refine gv_istore_n 3 S 2 (lv' := [(2, .int (0 : Int32)), (1, .int (0 : Int32)), (0, .ref (X.2.2 83))]) dX11_effort_3 rfl (Nat.le_of_ble_eq_true rfl) rfl ?_
  exact gv_sub [2, 1, 0] rfl (t_X11_effort_4 S FU (0 : Int32) (0 : Int32) h)
theorem mi_X11_goes_11 : ∀ w ∈ u_ws RX11 TX11 39, w ∈ wsX11_goes := by decide +kernel
theorem mf_X11_goes_87 : MF wsX11_goes RX11 87 10 5 := ⟨RX11, TX11, 39, rfl, by decide, mi_X11_goes_11, by decide +kernel⟩
theorem mf_X11_goes_28 : MF wsX11_goes RX11 28 10 12 := ⟨RX11, TX11, 39, rfl, by decide, mi_X11_goes_11, by decide +kernel⟩
theorem mf_X11_goes_37 : MF wsX11_goes RX11 37 10 20 := ⟨RX11, TX11, 39, rfl, by decide, mi_X11_goes_11, by decide +kernel⟩
abbrev rm_X11_goes : Room := { frames := 0, cells := 0, slots := 0, locals := 0 }
set_option maxHeartbeats 4000000 in
set_option maxRecDepth 100000 in
theorem t_X11_goes_2 {p : Program} {l : Launch} {e : Env} {s : State} {m : MethodId} {args : Array Value} {below : List Frame} {meth : Method} {c : Code} {X : GE} {M' : MM} (S : CX p s m args meth c cX11_goes 2 wsX11_goes RX11 none X) : ∀ (n : Nat) (M : MM) (v1 : Int32) (h : g_X11_goes_2 n M v1 = some M'), V p l e (headSpec wsX11_goes rm_X11_goes).room s m args below meth c 2 X (MQ below (gQv X M') args s 0 0 (gA X)) M 2 [(0, .ref (X.2.2 83)), (1, .int v1)] [] := by
  intro n
  induction n with
  | zero =>
    intro M v1 h
    rw [g_X11_goes_2] at h
    cases h
  | succ n ih =>
    intro M v1 h
    rw [g_X11_goes_2] at h
    refine gv_iload_n 2 S 1 1 dX11_goes_2 rfl rfl ?_
    refine gv_aload_n 3 S 0 0 dX11_goes_3 rfl rfl ?_
    refine gv_get 4 S (hF_83_battens X) mf_X11_goes_87 dX11_goes_4 ?_
    refine gv_icmp_ge 7 S 28 h dX11_goes_7 (by decide) (fun h => ?_) (fun h => ?_)
    · exact gv_vret 28 S h dX11_goes_28
    · refine gv_aload_n 10 S 0 0 dX11_goes_10 rfl rfl ?_
      refine gv_get 11 S (hF_83_height X) mf_X11_goes_28 dX11_goes_11 ?_
      refine gv_iload_n 14 S 1 1 dX11_goes_14 rfl rfl ?_
      refine gv_aload_n 15 S 0 0 dX11_goes_15 rfl rfl ?_
      refine gv_get 16 S (hF_83_goal X) mf_X11_goes_37 dX11_goes_16 ?_
      refine gv_iload_n 19 S 1 1 dX11_goes_19 rfl rfl ?_
      refine gv_iald 20 S h (hI_93 X) dX11_goes_20 (fun h => ?_)
      refine gv_iast 21 S h (hI_90 X) dX11_goes_21 (fun M1 h => ?_)
      refine gv_iinc 22 S 1 (v1 + (1 : Int32)) (lv' := [(1, .int (v1 + (1 : Int32))), (0, .ref (X.2.2 83))]) dX11_goes_22 rfl rfl (Nat.le_of_ble_eq_true rfl) rfl ?_
      refine gv_goto 25 S 2 dX11_goes_25 (by decide) ?_
      exact gv_sub [1, 0] rfl (ih M1 (v1 + (1 : Int32)) h)
set_option maxHeartbeats 4000000 in
set_option maxRecDepth 100000 in
theorem c_X11_goes (l : Launch) (X : GE) (M : MM) (M' : MM) (h : f_X11_goes M = some M') : CTv l yX11_goes wsX11_goes rm_X11_goes X [.ref (X.2.2 83)] M M' := by
  refine ct_v (own := RX11) (by decide +kernel) rfl rfl (Nat.le_of_ble_eq_true rfl) (lv0 := [(0, .ref (X.2.2 83))]) rfl ?_
  intro p e s m args below meth c S
  unfold f_X11_goes at h
  refine gv_iconst 0 S (0 : Int32) dX11_goes_0 (by decide) ?_
  refine gv_istore_n 1 S 1 (lv' := [(1, .int (0 : Int32)), (0, .ref (X.2.2 83))]) dX11_goes_1 rfl (Nat.le_of_ble_eq_true rfl) rfl ?_
  exact gv_sub [1, 0] rfl (t_X11_goes_2 S FU M (0 : Int32) h)
theorem mi_X11_write_11 : ∀ w ∈ u_ws RX11 TX11 39, w ∈ wsX11_write := by decide +kernel
theorem mf_X11_write_129 : MF wsX11_write RX11 129 10 8 := ⟨RX11, TX11, 39, rfl, by decide, mi_X11_write_11, by decide +kernel⟩
theorem mf_X11_write_28 : MF wsX11_write RX11 28 10 12 := ⟨RX11, TX11, 39, rfl, by decide, mi_X11_write_11, by decide +kernel⟩
theorem mf_X11_write_22 : MF wsX11_write RX11 22 10 10 := ⟨RX11, TX11, 39, rfl, by decide, mi_X11_write_11, by decide +kernel⟩
theorem mf_X11_write_25 : MF wsX11_write RX11 25 10 11 := ⟨RX11, TX11, 39, rfl, by decide, mi_X11_write_11, by decide +kernel⟩
abbrev rm_X11_write : Room := { frames := 0, cells := 0, slots := 0, locals := 0 }
set_option maxHeartbeats 4000000 in
set_option maxRecDepth 100000 in
theorem t_X11_write_2 {p : Program} {l : Launch} {e : Env} {s : State} {m : MethodId} {args : Array Value} {below : List Frame} {meth : Method} {c : Code} {X : GE} {M' : MM} (S : CX p s m args meth c cX11_write 4 wsX11_write RX11 none X) (k1 : Nat) (nk1 : Nat) (hk1 : hI X k1 nk1) : ∀ (n : Nat) (M : MM) (v2 : Int32) (v3 : Int32) (h : g_X11_write_2 k1 nk1 n M v2 v3 = some M'), V p l e (headSpec wsX11_write rm_X11_write).room s m args below meth c 4 X (MQ below (gQv X M') args s 0 0 (gA X)) M 2 [(0, .ref (X.2.2 83)), (1, .ref (X.2.2 k1)), (2, .int v2), (3, .int v3)] [] := by
  intro n
  induction n with
  | zero =>
    intro M v2 v3 h
    rw [g_X11_write_2] at h
    cases h
  | succ n ih =>
    intro M v2 v3 h
    rw [g_X11_write_2] at h
    refine gv_iload_n 2 S 3 3 dX11_write_2 rfl rfl ?_
    refine gv_bipush 3 S (8 : Int32) dX11_write_3 (by decide) ?_
    refine gv_icmp_ge 5 S 53 h dX11_write_5 (by decide) (fun h => ?_) (fun h => ?_)
    · refine gv_aload_n 53 S 1 1 dX11_write_53 rfl rfl ?_
      refine gv_iload_n 54 S 2 2 dX11_write_54 rfl rfl ?_
      refine gv_bipush 55 S (24 : Int32) dX11_write_55 (by decide) ?_
      refine gv_iadd 57 S dX11_write_57 ?_
      refine gv_aload_n 58 S 0 0 dX11_write_58 rfl rfl ?_
      refine gv_get 59 S (hF_83_stock X) mf_X11_write_129 dX11_write_59 ?_
      refine gv_iast 62 S h hk1 dX11_write_62 (fun M1 h => ?_)
      exact gv_vret 63 S h dX11_write_63
    · refine gv_aload_n 8 S 1 1 dX11_write_8 rfl rfl ?_
      refine gv_iload_n 9 S 2 2 dX11_write_9 rfl rfl ?_
      refine gv_iload_n 10 S 3 3 dX11_write_10 rfl rfl ?_
      refine gv_iadd 11 S dX11_write_11 ?_
      refine gv_aload_n 12 S 0 0 dX11_write_12 rfl rfl ?_
      refine gv_get 13 S (hF_83_height X) mf_X11_write_28 dX11_write_13 ?_
      refine gv_iload_n 16 S 3 3 dX11_write_16 rfl rfl ?_
      refine gv_iald 17 S h (hI_90 X) dX11_write_17 (fun h => ?_)
      refine gv_iast 18 S h hk1 dX11_write_18 (fun M2 h => ?_)
      refine gv_aload_n 19 S 1 1 dX11_write_19 rfl rfl ?_
      refine gv_iload_n 20 S 2 2 dX11_write_20 rfl rfl ?_
      refine gv_bipush 21 S (8 : Int32) dX11_write_21 (by decide) ?_
      refine gv_iadd 23 S dX11_write_23 ?_
      refine gv_iload_n 24 S 3 3 dX11_write_24 rfl rfl ?_
      refine gv_iadd 25 S dX11_write_25 ?_
      refine gv_aload_n 26 S 0 0 dX11_write_26 rfl rfl ?_
      refine gv_get 27 S (hF_83_load X) mf_X11_write_22 dX11_write_27 ?_
      refine gv_iload_n 30 S 3 3 dX11_write_30 rfl rfl ?_
      refine gv_iald 31 S h (hI_88 X) dX11_write_31 (fun h => ?_)
      refine gv_iast 32 S h hk1 dX11_write_32 (fun M3 h => ?_)
      refine gv_aload_n 33 S 1 1 dX11_write_33 rfl rfl ?_
      refine gv_iload_n 34 S 2 2 dX11_write_34 rfl rfl ?_
      refine gv_bipush 35 S (16 : Int32) dX11_write_35 (by decide) ?_
      refine gv_iadd 37 S dX11_write_37 ?_
      refine gv_iload_n 38 S 3 3 dX11_write_38 rfl rfl ?_
      refine gv_iadd 39 S dX11_write_39 ?_
      refine gv_aload_n 40 S 0 0 dX11_write_40 rfl rfl ?_
      refine gv_get 41 S (hF_83_bricks X) mf_X11_write_25 dX11_write_41 ?_
      refine gv_iload_n 44 S 3 3 dX11_write_44 rfl rfl ?_
      refine gv_iald 45 S h (hI_89 X) dX11_write_45 (fun h => ?_)
      refine gv_iast 46 S h hk1 dX11_write_46 (fun M4 h => ?_)
      refine gv_iinc 47 S 3 (v3 + (1 : Int32)) (lv' := [(3, .int (v3 + (1 : Int32))), (0, .ref (X.2.2 83)), (1, .ref (X.2.2 k1)), (2, .int v2)]) dX11_write_47 rfl rfl (Nat.le_of_ble_eq_true rfl) rfl ?_
      refine gv_goto 50 S 2 dX11_write_50 (by decide) ?_
      exact gv_sub [1, 2, 3, 0] rfl (ih M4 v2 (v3 + (1 : Int32)) h)
set_option maxHeartbeats 4000000 in
set_option maxRecDepth 100000 in
theorem c_X11_write (l : Launch) (X : GE) (M : MM) (k1 : Nat) (n1 : Nat) (v2 : Int32) (hk1 : hI X k1 n1) (M' : MM) (h : f_X11_write M k1 n1 v2 = some M') : CTv l yX11_write wsX11_write rm_X11_write X [.ref (X.2.2 83), .ref (X.2.2 k1), .int v2] M M' := by
  refine ct_v (own := RX11) (by decide +kernel) rfl rfl (Nat.le_of_ble_eq_true rfl) (lv0 := [(0, .ref (X.2.2 83)), (1, .ref (X.2.2 k1)), (2, .int v2)]) rfl ?_
  intro p e s m args below meth c S
  unfold f_X11_write at h
  refine gv_iconst 0 S (0 : Int32) dX11_write_0 (by decide) ?_
  refine gv_istore_n 1 S 3 (lv' := [(3, .int (0 : Int32)), (0, .ref (X.2.2 83)), (1, .ref (X.2.2 k1)), (2, .int v2)]) dX11_write_1 rfl (Nat.le_of_ble_eq_true rfl) rfl ?_
  exact gv_sub [1, 2, 3, 0] rfl (t_X11_write_2 S k1 n1 hk1 FU M v2 (0 : Int32) h)
theorem mi_X11_remember_11 : ∀ w ∈ u_ws RX11 TX11 39, w ∈ wsX11_remember := by decide +kernel
theorem mf_X11_remember_135 : MF wsX11_remember RX11 135 10 21 := ⟨RX11, TX11, 39, rfl, by decide, mi_X11_remember_11, by decide +kernel⟩
theorem mf_X11_remember_40 : MF wsX11_remember RX11 40 10 22 := ⟨RX11, TX11, 39, rfl, by decide, mi_X11_remember_11, by decide +kernel⟩
theorem mp_X11_remember_135 : MP wsX11_remember RX11 135 10 21 .int := ⟨RX11, TX11, 39, tyX11, rfl, by decide, mi_X11_remember_11, by decide +kernel, tyX11_ok, nmX11, rfl, by decide +kernel⟩
abbrev rm_X11_remember : Room := { frames := 1, cells := 0, slots := 0, locals := 23 }
set_option maxHeartbeats 4000000 in
set_option maxRecDepth 100000 in
theorem t_X11_remember_50 {p : Program} {l : Launch} {e : Env} {s : State} {m : MethodId} {args : Array Value} {below : List Frame} {meth : Method} {c : Code} {X : GE} {M' : MM} (S : CX p s m args meth c cX11_remember 2 wsX11_remember RX11 none X) (M : MM) (h : g_X11_remember_50 M = some M') : V p l e (headSpec wsX11_remember rm_X11_remember).room s m args below meth c 2 X (MQ below (gQv X M') args s 0 0 (gA X)) M 50 [(0, .ref (X.2.2 83))] [] := by
  unfold g_X11_remember_50 at h
  refine gv_aload_n 50 S 0 0 dX11_remember_50 rfl rfl ?_
  refine gv_aload_n 51 S 0 0 dX11_remember_51 rfl rfl ?_
  refine gv_get 52 S (hF_83_before X) mf_X11_remember_40 dX11_remember_52 ?_
  refine gv_bipush 55 S (25 : Int32) dX11_remember_55 (by decide) ?_
  refine gv_aload_n 57 S 0 0 dX11_remember_57 rfl rfl ?_
  refine gv_get 58 S (hF_83_known X) mf_X11_remember_135 dX11_remember_58 ?_
  refine gv_imul 61 S dX11_remember_61 ?_
  obtain ⟨M2, hc3, h⟩ := br_some h
  refine gv_cVv 62 S (As := [.ref (X.2.2 94), .int ((25 : Int32) * (M 83 21))]) (rest := []) (c_X11_write l X M 94 200 ((25 : Int32) * (M 83 21)) (hI_94 X) M2 hc3) (hO_83 X) rfl (cwV 2 S.1.2.2.2.2 gX11_remember_X11_write rfl rfl rfl (by decide +kernel) ⟨Nat.le_of_ble_eq_true rfl, Nat.le_of_ble_eq_true rfl⟩) rfl rfl (Nat.le_of_ble_eq_true rfl) dX11_remember_62 ?_
  refine gv_aload_n 65 S 0 0 dX11_remember_65 rfl rfl ?_
  refine gv_dup 66 S dX11_remember_66 rfl ?_
  refine gv_get 67 S (hF_83_known X) mf_X11_remember_135 dX11_remember_67 ?_
  refine gv_iconst 70 S (1 : Int32) dX11_remember_70 (by decide) ?_
  refine gv_iadd 71 S dX11_remember_71 ?_
  refine gv_put 72 S h (hP_83_known X) mp_X11_remember_135 rfl rfl dX11_remember_72 (fun M4 h => ?_)
  exact gv_vret 75 S h dX11_remember_75
set_option maxHeartbeats 4000000 in
set_option maxRecDepth 100000 in
theorem t_X11_remember_12 {p : Program} {l : Launch} {e : Env} {s : State} {m : MethodId} {args : Array Value} {below : List Frame} {meth : Method} {c : Code} {X : GE} {M' : MM} (S : CX p s m args meth c cX11_remember 2 wsX11_remember RX11 none X) : ∀ (n : Nat) (M : MM) (v1 : Int32) (h : g_X11_remember_12 n M v1 = some M'), V p l e (headSpec wsX11_remember rm_X11_remember).room s m args below meth c 2 X (MQ below (gQv X M') args s 0 0 (gA X)) M 12 [(0, .ref (X.2.2 83)), (1, .int v1)] [] := by
  intro n
  induction n with
  | zero =>
    intro M v1 h
    rw [g_X11_remember_12] at h
    cases h
  | succ n ih =>
    intro M v1 h
    rw [g_X11_remember_12] at h
    refine gv_iload_n 12 S 1 1 dX11_remember_12 rfl rfl ?_
    refine gv_sipush 13 S (200 : Int32) dX11_remember_13 (by decide) ?_
    refine gv_icmp_ge 16 S 40 h dX11_remember_16 (by decide) (fun h => ?_) (fun h => ?_)
    · refine gv_aload_n 40 S 0 0 dX11_remember_40 rfl rfl ?_
      refine gv_dup 41 S dX11_remember_41 rfl ?_
      refine gv_get 42 S (hF_83_known X) mf_X11_remember_135 dX11_remember_42 ?_
      refine gv_iconst 45 S (1 : Int32) dX11_remember_45 (by decide) ?_
      refine gv_isub 46 S dX11_remember_46 ?_
      refine gv_put 47 S h (hP_83_known X) mp_X11_remember_135 rfl rfl dX11_remember_47 (fun M5 h => ?_)
      exact gv_sub [0] rfl (t_X11_remember_50 S M5 h)
    · refine gv_aload_n 19 S 0 0 dX11_remember_19 rfl rfl ?_
      refine gv_get 20 S (hF_83_before X) mf_X11_remember_40 dX11_remember_20 ?_
      refine gv_iload_n 23 S 1 1 dX11_remember_23 rfl rfl ?_
      refine gv_bipush 24 S (25 : Int32) dX11_remember_24 (by decide) ?_
      refine gv_isub 26 S dX11_remember_26 ?_
      refine gv_aload_n 27 S 0 0 dX11_remember_27 rfl rfl ?_
      refine gv_get 28 S (hF_83_before X) mf_X11_remember_40 dX11_remember_28 ?_
      refine gv_iload_n 31 S 1 1 dX11_remember_31 rfl rfl ?_
      refine gv_iald 32 S h (hI_94 X) dX11_remember_32 (fun h => ?_)
      refine gv_iast 33 S h (hI_94 X) dX11_remember_33 (fun M6 h => ?_)
      refine gv_iinc 34 S 1 (v1 + (1 : Int32)) (lv' := [(1, .int (v1 + (1 : Int32))), (0, .ref (X.2.2 83))]) dX11_remember_34 rfl rfl (Nat.le_of_ble_eq_true rfl) rfl ?_
      refine gv_goto 37 S 12 dX11_remember_37 (by decide) ?_
      exact gv_sub [1, 0] rfl (ih M6 (v1 + (1 : Int32)) h)
set_option maxHeartbeats 4000000 in
set_option maxRecDepth 100000 in
theorem c_X11_remember (l : Launch) (X : GE) (M : MM) (M' : MM) (h : f_X11_remember M = some M') : CTv l yX11_remember wsX11_remember rm_X11_remember X [.ref (X.2.2 83)] M M' := by
  refine ct_v (own := RX11) (by decide +kernel) rfl rfl (Nat.le_of_ble_eq_true rfl) (lv0 := [(0, .ref (X.2.2 83))]) rfl ?_
  intro p e s m args below meth c S
  unfold f_X11_remember at h
  refine gv_aload_n 0 S 0 0 dX11_remember_0 rfl rfl ?_
  refine gv_get 1 S (hF_83_known X) mf_X11_remember_135 dX11_remember_1 ?_
  refine gv_bipush 4 S (8 : Int32) dX11_remember_4 (by decide) ?_
  refine gv_icmp_ne 6 S 50 h dX11_remember_6 (by decide) (fun h => ?_) (fun h => ?_)
  · exact gv_sub [0] rfl (t_X11_remember_50 S M h)
  · refine gv_bipush 9 S (25 : Int32) dX11_remember_9 (by decide) ?_
    refine gv_istore_n 11 S 1 (lv' := [(1, .int (25 : Int32)), (0, .ref (X.2.2 83))]) dX11_remember_11 rfl (Nat.le_of_ble_eq_true rfl) rfl ?_
    exact gv_sub [1, 0] rfl (t_X11_remember_12 S FU M (25 : Int32) h)
abbrev rm_X11_doCue : Room := { frames := 2, cells := 0, slots := 0, locals := 44 }
set_option maxHeartbeats 4000000 in
set_option maxRecDepth 100000 in
theorem c_X11_doCue (l : Launch) (X : GE) (M : MM) (r : Int32) (M' : MM) (h : f_X11_doCue M = some (r, M')) : CTi l yX11_doCue wsX11_doCue rm_X11_doCue X [.ref (X.2.2 83)] M r M' := by
  refine ct_i (own := RX11) (by decide +kernel) rfl rfl (Nat.le_of_ble_eq_true rfl) (lv0 := [(0, .ref (X.2.2 83))]) rfl ?_
  intro p e s m args below meth c S
  unfold f_X11_doCue at h
  refine gv_aload_n 0 S 0 0 dX11_doCue_0 rfl rfl ?_
  obtain ⟨r1, hc2, h⟩ := br_some h
  refine gv_cVi 1 S (As := []) (rest := []) (c_X11_canBe l X M r1 hc2) (hO_83 X) rfl (cwV 0 S.1.2.2.2.2 gX11_doCue_X11_canBe rfl rfl rfl (by decide +kernel) ⟨Nat.le_of_ble_eq_true rfl, Nat.le_of_ble_eq_true rfl⟩) rfl rfl (Nat.le_of_ble_eq_true rfl) dX11_doCue_1 ?_
  refine gv_if_ne 4 S 10 h dX11_doCue_4 (by decide) (fun h => ?_) (fun h => ?_)
  · refine gv_aload_n 10 S 0 0 dX11_doCue_10 rfl rfl ?_
    obtain ⟨r3, hc4, h⟩ := br_some h
    refine gv_cVi 11 S (As := []) (rest := []) (c_X11_beats l X M r3 hc4) (hO_83 X) rfl (cwV 0 S.1.2.2.2.2 gX11_doCue_X11_beats rfl rfl rfl (by decide +kernel) ⟨Nat.le_of_ble_eq_true rfl, Nat.le_of_ble_eq_true rfl⟩) rfl rfl (Nat.le_of_ble_eq_true rfl) dX11_doCue_11 ?_
    refine gv_istore_n 14 S 1 (lv' := [(1, .int r3), (0, .ref (X.2.2 83))]) dX11_doCue_14 rfl (Nat.le_of_ble_eq_true rfl) rfl ?_
    refine gv_aload_n 15 S 0 1 dX11_doCue_15 rfl rfl ?_
    obtain ⟨M6, hc7, h⟩ := br_some h
    refine gv_cVv 16 S (As := []) (rest := []) (c_X11_remember l X M M6 hc7) (hO_83 X) rfl (cwV 0 S.1.2.2.2.2 gX11_doCue_X11_remember rfl rfl rfl (by decide +kernel) ⟨Nat.le_of_ble_eq_true rfl, Nat.le_of_ble_eq_true rfl⟩) rfl rfl (Nat.le_of_ble_eq_true rfl) dX11_doCue_16 ?_
    refine gv_aload_n 19 S 0 1 dX11_doCue_19 rfl rfl ?_
    obtain ⟨M9, hc10, h⟩ := br_some h
    refine gv_cVv 20 S (As := []) (rest := []) (c_X11_goes l X M6 M9 hc10) (hO_83 X) rfl (cwV 0 S.1.2.2.2.2 gX11_doCue_X11_goes rfl rfl rfl (by decide +kernel) ⟨Nat.le_of_ble_eq_true rfl, Nat.le_of_ble_eq_true rfl⟩) rfl rfl (Nat.le_of_ble_eq_true rfl) dX11_doCue_20 ?_
    refine gv_iload_n 23 S 1 0 dX11_doCue_23 rfl rfl ?_
    exact gv_iret 24 S h dX11_doCue_24
  · refine gv_bipush 7 S (-3 : Int32) dX11_doCue_7 (by decide) ?_
    exact gv_iret 9 S h dX11_doCue_9
theorem mi_X11_fly_11 : ∀ w ∈ u_ws RX11 TX11 39, w ∈ wsX11_fly := by decide +kernel
theorem mf_X11_fly_37 : MF wsX11_fly RX11 37 10 20 := ⟨RX11, TX11, 39, rfl, by decide, mi_X11_fly_11, by decide +kernel⟩
abbrev rm_X11_fly : Room := { frames := 3, cells := 0, slots := 0, locals := 65 }
set_option maxHeartbeats 4000000 in
set_option maxRecDepth 100000 in
theorem c_X11_fly (l : Launch) (X : GE) (M : MM) (v1 : Int32) (v2 : Int32) (r : Int32) (M' : MM) (h : f_X11_fly M v1 v2 = some (r, M')) : CTi l yX11_fly wsX11_fly rm_X11_fly X [.ref (X.2.2 83), .int v1, .int v2] M r M' := by
  refine ct_i (own := RX11) (by decide +kernel) rfl rfl (Nat.le_of_ble_eq_true rfl) (lv0 := [(0, .ref (X.2.2 83)), (1, .int v1), (2, .int v2)]) rfl ?_
  intro p e s m args below meth c S
  unfold f_X11_fly at h
  refine gv_aload_n 0 S 0 0 dX11_fly_0 rfl rfl ?_
  refine gv_iload_n 1 S 1 1 dX11_fly_1 rfl rfl ?_
  obtain ⟨r1, hc2, h⟩ := br_some h
  refine gv_cVi 2 S (As := [.int v1]) (rest := []) (c_X11_isBatten l X M v1 r1 hc2) (hO_83 X) rfl (cwV 1 S.1.2.2.2.2 gX11_fly_X11_isBatten rfl rfl rfl (by decide +kernel) ⟨Nat.le_of_ble_eq_true rfl, Nat.le_of_ble_eq_true rfl⟩) rfl rfl (Nat.le_of_ble_eq_true rfl) dX11_fly_2 ?_
  refine gv_if_ne 5 S 10 h dX11_fly_5 (by decide) (fun h => ?_) (fun h => ?_)
  · refine gv_iload_n 10 S 2 2 dX11_fly_10 rfl rfl ?_
    obtain ⟨r3, hc4, h⟩ := br_some h
    refine gv_cSi 11 S (As := [.int v2]) (rest := []) (c_X11_isDigit l X M v2 r3 hc4) (va_cwS 1 S.1.2.2.2.2 gX11_fly_X11_isDigit rfl rfl rfl (by decide +kernel) ⟨Nat.le_of_ble_eq_true rfl, Nat.le_of_ble_eq_true rfl⟩) rfl rfl (Nat.le_of_ble_eq_true rfl) dX11_fly_11 ?_
    refine gv_if_ne 14 S 20 h dX11_fly_14 (by decide) (fun h => ?_) (fun h => ?_)
    · refine gv_aload_n 20 S 0 0 dX11_fly_20 rfl rfl ?_
      obtain ⟨M6, hc7, h⟩ := br_some h
      refine gv_cVv 21 S (As := []) (rest := []) (c_X11_goalsAsNow l X M M6 hc7) (hO_83 X) rfl (cwV 0 S.1.2.2.2.2 gX11_fly_X11_goalsAsNow rfl rfl rfl (by decide +kernel) ⟨Nat.le_of_ble_eq_true rfl, Nat.le_of_ble_eq_true rfl⟩) rfl rfl (Nat.le_of_ble_eq_true rfl) dX11_fly_21 ?_
      refine gv_aload_n 24 S 0 0 dX11_fly_24 rfl rfl ?_
      refine gv_get 25 S (hF_83_goal X) mf_X11_fly_37 dX11_fly_25 ?_
      refine gv_iload_n 28 S 1 1 dX11_fly_28 rfl rfl ?_
      refine gv_iload_n 29 S 2 2 dX11_fly_29 rfl rfl ?_
      refine gv_iast 30 S h (hI_93 X) dX11_fly_30 (fun M8 h => ?_)
      refine gv_aload_n 31 S 0 0 dX11_fly_31 rfl rfl ?_
      obtain ⟨r9, M10, hc11, h⟩ := bi_some h
      refine gv_cVi 32 S (As := []) (rest := []) (c_X11_doCue l X M8 r9 M10 hc11) (hO_83 X) rfl (cwV 0 S.1.2.2.2.2 gX11_fly_X11_doCue rfl rfl rfl (by decide +kernel) ⟨Nat.le_of_ble_eq_true rfl, Nat.le_of_ble_eq_true rfl⟩) rfl rfl (Nat.le_of_ble_eq_true rfl) dX11_fly_32 ?_
      exact gv_iret 35 S h dX11_fly_35
    · refine gv_bipush 17 S (-2 : Int32) dX11_fly_17 (by decide) ?_
      exact gv_iret 19 S h dX11_fly_19
  · refine gv_iconst 8 S (-1 : Int32) dX11_fly_8 (by decide) ?_
    exact gv_iret 9 S h dX11_fly_9
theorem mi_X11_refusesPairs_11 : ∀ w ∈ u_ws RX11 TX11 39, w ∈ wsX11_refusesPairs := by decide +kernel
theorem mf_X11_refusesPairs_16 : MF wsX11_refusesPairs RX11 16 10 4 := ⟨RX11, TX11, 39, rfl, by decide, mi_X11_refusesPairs_11, by decide +kernel⟩
abbrev rm_X11_refusesPairs : Room := { frames := 2, cells := 0, slots := 0, locals := 42 }
set_option maxHeartbeats 4000000 in
set_option maxRecDepth 100000 in
theorem t_X11_refusesPairs_2 {p : Program} {l : Launch} {e : Env} {s : State} {m : MethodId} {args : Array Value} {below : List Frame} {meth : Method} {c : Code} {X : GE} {M : MM} {r : Int32} (S : CX p s m args meth c cX11_refusesPairs 4 wsX11_refusesPairs RX11 (some .int) X) : ∀ (n : Nat) (v1 : Int32) (v2 : Int32) (v3 : Int32) (h : g_X11_refusesPairs_2 M n v1 v2 v3 = some r), V p l e (headSpec wsX11_refusesPairs rm_X11_refusesPairs).room s m args below meth c 4 X (MQ below (gQi X r M) args s 0 0 (gA X)) M 2 [(0, .ref (X.2.2 83)), (1, .int v1), (2, .int v2), (3, .int v3)] [] := by
  intro n
  induction n with
  | zero =>
    intro v1 v2 v3 h
    rw [g_X11_refusesPairs_2] at h
    cases h
  | succ n ih =>
    intro v1 v2 v3 h
    rw [g_X11_refusesPairs_2] at h
    refine gv_iload_n 2 S 3 3 dX11_refusesPairs_2 rfl rfl ?_
    refine gv_iload_n 3 S 2 2 dX11_refusesPairs_3 rfl rfl ?_
    refine gv_icmp_ge 4 S 53 h dX11_refusesPairs_4 (by decide) (fun h => ?_) (fun h => ?_)
    · refine gv_iconst 53 S (0 : Int32) dX11_refusesPairs_53 (by decide) ?_
      exact gv_iretR 54 S h dX11_refusesPairs_54
    · refine gv_aload_n 7 S 0 0 dX11_refusesPairs_7 rfl rfl ?_
      refine gv_aload_n 8 S 0 0 dX11_refusesPairs_8 rfl rfl ?_
      refine gv_get 9 S (hF_83_cells X) mf_X11_refusesPairs_16 dX11_refusesPairs_9 ?_
      refine gv_iload_n 12 S 1 1 dX11_refusesPairs_12 rfl rfl ?_
      refine gv_iconst 13 S (2 : Int32) dX11_refusesPairs_13 (by decide) ?_
      refine gv_iload_n 14 S 3 3 dX11_refusesPairs_14 rfl rfl ?_
      refine gv_imul 15 S dX11_refusesPairs_15 ?_
      refine gv_iadd 16 S dX11_refusesPairs_16 ?_
      refine gv_iald 17 S h (hI_86 X) dX11_refusesPairs_17 (fun h => ?_)
      obtain ⟨r1, hc2, h⟩ := br_some h
      refine gv_cVi 18 S (As := [.int (M 86 (v1 + ((2 : Int32) * v3)).toNatClampNeg)]) (rest := []) (c_X11_isBatten l X M (M 86 (v1 + ((2 : Int32) * v3)).toNatClampNeg) r1 hc2) (hO_83 X) rfl (cwV 1 S.1.2.2.2.2 gX11_refusesPairs_X11_isBatten rfl rfl rfl (by decide +kernel) ⟨Nat.le_of_ble_eq_true rfl, Nat.le_of_ble_eq_true rfl⟩) rfl rfl (Nat.le_of_ble_eq_true rfl) dX11_refusesPairs_18 ?_
      refine gv_if_ne 21 S 26 h dX11_refusesPairs_21 (by decide) (fun h => ?_) (fun h => ?_)
      · refine gv_aload_n 26 S 0 0 dX11_refusesPairs_26 rfl rfl ?_
        refine gv_get 27 S (hF_83_cells X) mf_X11_refusesPairs_16 dX11_refusesPairs_27 ?_
        refine gv_iload_n 30 S 1 1 dX11_refusesPairs_30 rfl rfl ?_
        refine gv_iconst 31 S (2 : Int32) dX11_refusesPairs_31 (by decide) ?_
        refine gv_iload_n 32 S 3 3 dX11_refusesPairs_32 rfl rfl ?_
        refine gv_imul 33 S dX11_refusesPairs_33 ?_
        refine gv_iadd 34 S dX11_refusesPairs_34 ?_
        refine gv_iconst 35 S (1 : Int32) dX11_refusesPairs_35 (by decide) ?_
        refine gv_iadd 36 S dX11_refusesPairs_36 ?_
        refine gv_iald 37 S h (hI_86 X) dX11_refusesPairs_37 (fun h => ?_)
        obtain ⟨r3, hc4, h⟩ := br_some h
        refine gv_cSi 38 S (As := [.int (M 86 ((v1 + ((2 : Int32) * v3)) + (1 : Int32)).toNatClampNeg)]) (rest := []) (c_X11_isDigit l X M (M 86 ((v1 + ((2 : Int32) * v3)) + (1 : Int32)).toNatClampNeg) r3 hc4) (va_cwS 1 S.1.2.2.2.2 gX11_refusesPairs_X11_isDigit rfl rfl rfl (by decide +kernel) ⟨Nat.le_of_ble_eq_true rfl, Nat.le_of_ble_eq_true rfl⟩) rfl rfl (Nat.le_of_ble_eq_true rfl) dX11_refusesPairs_38 ?_
        refine gv_if_ne 41 S 47 h dX11_refusesPairs_41 (by decide) (fun h => ?_) (fun h => ?_)
        · refine gv_iinc 47 S 3 (v3 + (1 : Int32)) (lv' := [(3, .int (v3 + (1 : Int32))), (0, .ref (X.2.2 83)), (1, .int v1), (2, .int v2)]) dX11_refusesPairs_47 rfl rfl (Nat.le_of_ble_eq_true rfl) rfl ?_
          refine gv_goto 50 S 2 dX11_refusesPairs_50 (by decide) ?_
          exact gv_sub [1, 2, 3, 0] rfl (ih v1 v2 (v3 + (1 : Int32)) h)
        · refine gv_bipush 44 S (-2 : Int32) dX11_refusesPairs_44 (by decide) ?_
          exact gv_iretR 46 S h dX11_refusesPairs_46
      · refine gv_iconst 24 S (-1 : Int32) dX11_refusesPairs_24 (by decide) ?_
        exact gv_iretR 25 S h dX11_refusesPairs_25
set_option maxHeartbeats 4000000 in
set_option maxRecDepth 100000 in
theorem c_X11_refusesPairs (l : Launch) (X : GE) (M : MM) (v1 : Int32) (v2 : Int32) (r : Int32) (h : f_X11_refusesPairs M v1 v2 = some r) : CTi l yX11_refusesPairs wsX11_refusesPairs rm_X11_refusesPairs X [.ref (X.2.2 83), .int v1, .int v2] M r M := by
  refine ct_i (own := RX11) (by decide +kernel) rfl rfl (Nat.le_of_ble_eq_true rfl) (lv0 := [(0, .ref (X.2.2 83)), (1, .int v1), (2, .int v2)]) rfl ?_
  intro p e s m args below meth c S
  unfold f_X11_refusesPairs at h
  refine gv_iconst 0 S (0 : Int32) dX11_refusesPairs_0 (by decide) ?_
  refine gv_istore_n 1 S 3 (lv' := [(3, .int (0 : Int32)), (0, .ref (X.2.2 83)), (1, .int v1), (2, .int v2)]) dX11_refusesPairs_1 rfl (Nat.le_of_ble_eq_true rfl) rfl ?_
  exact gv_sub [1, 2, 3, 0] rfl (t_X11_refusesPairs_2 S FU v1 v2 (0 : Int32) h)
theorem mi_X11_isTwice_11 : ∀ w ∈ u_ws RX11 TX11 39, w ∈ wsX11_isTwice := by decide +kernel
theorem mf_X11_isTwice_16 : MF wsX11_isTwice RX11 16 10 4 := ⟨RX11, TX11, 39, rfl, by decide, mi_X11_isTwice_11, by decide +kernel⟩
abbrev rm_X11_isTwice : Room := { frames := 0, cells := 0, slots := 0, locals := 0 }
set_option maxHeartbeats 4000000 in
set_option maxRecDepth 100000 in
theorem t_X11_isTwice_5 {p : Program} {l : Launch} {e : Env} {s : State} {m : MethodId} {args : Array Value} {below : List Frame} {meth : Method} {c : Code} {X : GE} {M : MM} {r : Int32} (S : CX p s m args meth c cX11_isTwice 6 wsX11_isTwice RX11 (some .boolean) X) : ∀ (n : Nat) (v1 : Int32) (v2 : Int32) (v3 : Int32) (v4 : Int32) (h : g_X11_isTwice_5 M n v1 v2 v3 v4 = some r), V p l e (headSpec wsX11_isTwice rm_X11_isTwice).room s m args below meth c 6 X (MQ below (gQi X r M) args s 0 0 (gA X)) M 5 [(0, .ref (X.2.2 83)), (1, .int v1), (2, .int v2), (3, .int v3), (4, .int v4)] [] := by
  intro n
  induction n with
  | zero =>
    intro v1 v2 v3 v4 h
    rw [g_X11_isTwice_5] at h
    cases h
  | succ n ih =>
    intro v1 v2 v3 v4 h
    rw [g_X11_isTwice_5] at h
    refine gv_iload 5 S 4 dX11_isTwice_5 rfl ?_
    refine gv_iload_n 7 S 2 2 dX11_isTwice_7 rfl rfl ?_
    refine gv_icmp_ge 8 S 49 h dX11_isTwice_8 (by decide) (fun h => ?_) (fun h => ?_)
    · refine gv_iconst 49 S (0 : Int32) dX11_isTwice_49 (by decide) ?_
      exact gv_zretR 50 S h rfl dX11_isTwice_50
    · refine gv_aload_n 11 S 0 0 dX11_isTwice_11 rfl rfl ?_
      refine gv_get 12 S (hF_83_cells X) mf_X11_isTwice_16 dX11_isTwice_12 ?_
      refine gv_iload_n 15 S 1 1 dX11_isTwice_15 rfl rfl ?_
      refine gv_iconst 16 S (2 : Int32) dX11_isTwice_16 (by decide) ?_
      refine gv_iload 17 S 4 dX11_isTwice_17 rfl ?_
      refine gv_imul 19 S dX11_isTwice_19 ?_
      refine gv_iadd 20 S dX11_isTwice_20 ?_
      refine gv_iald 21 S h (hI_86 X) dX11_isTwice_21 (fun h => ?_)
      refine gv_nmi h (fun x1 h => ?_)
      refine gv_istore 22 S (lv' := [(5, .int x1), (0, .ref (X.2.2 83)), (1, .int v1), (2, .int v2), (3, .int v3), (4, .int v4)]) dX11_isTwice_22 (Nat.le_of_ble_eq_true rfl) rfl ?_
      refine gv_iload_n 24 S 3 4 dX11_isTwice_24 rfl rfl ?_
      refine gv_iload 25 S 0 dX11_isTwice_25 rfl ?_
      refine gv_ishr 27 S dX11_isTwice_27 ?_
      refine gv_iconst 28 S (1 : Int32) dX11_isTwice_28 (by decide) ?_
      refine gv_iand 29 S dX11_isTwice_29 ?_
      refine gv_iconst 30 S (1 : Int32) dX11_isTwice_30 (by decide) ?_
      refine gv_icmp_ne 31 S 36 h dX11_isTwice_31 (by decide) (fun h => ?_) (fun h => ?_)
      · refine gv_iload_n 36 S 3 4 dX11_isTwice_36 rfl rfl ?_
        refine gv_iconst 37 S (1 : Int32) dX11_isTwice_37 (by decide) ?_
        refine gv_iload 38 S 0 dX11_isTwice_38 rfl ?_
        refine gv_ishl 40 S dX11_isTwice_40 ?_
        refine gv_ior 41 S dX11_isTwice_41 ?_
        refine gv_nmi h (fun x2 h => ?_)
        refine gv_istore_n 42 S 3 (lv' := [(3, .int x2), (5, .int x1), (0, .ref (X.2.2 83)), (1, .int v1), (2, .int v2), (4, .int v4)]) dX11_isTwice_42 rfl (Nat.le_of_ble_eq_true rfl) rfl ?_
        refine gv_iinc 43 S 5 (v4 + (1 : Int32)) (lv' := [(4, .int (v4 + (1 : Int32))), (3, .int x2), (5, .int x1), (0, .ref (X.2.2 83)), (1, .int v1), (2, .int v2)]) dX11_isTwice_43 rfl rfl (Nat.le_of_ble_eq_true rfl) rfl ?_
        refine gv_goto 46 S 5 dX11_isTwice_46 (by decide) ?_
        exact gv_sub [3, 4, 5, 1, 0] rfl (ih v1 v2 x2 (v4 + (1 : Int32)) h)
      · refine gv_iconst 34 S (1 : Int32) dX11_isTwice_34 (by decide) ?_
        exact gv_zretR 35 S h rfl dX11_isTwice_35
set_option maxHeartbeats 4000000 in
set_option maxRecDepth 100000 in
theorem c_X11_isTwice (l : Launch) (X : GE) (M : MM) (v1 : Int32) (v2 : Int32) (r : Int32) (h : f_X11_isTwice M v1 v2 = some r) : CTi l yX11_isTwice wsX11_isTwice rm_X11_isTwice X [.ref (X.2.2 83), .int v1, .int v2] M r M := by
  refine ct_i (own := RX11) (by decide +kernel) rfl rfl (Nat.le_of_ble_eq_true rfl) (lv0 := [(0, .ref (X.2.2 83)), (1, .int v1), (2, .int v2)]) rfl ?_
  intro p e s m args below meth c S
  unfold f_X11_isTwice at h
  refine gv_iconst 0 S (0 : Int32) dX11_isTwice_0 (by decide) ?_
  refine gv_istore_n 1 S 3 (lv' := [(3, .int (0 : Int32)), (0, .ref (X.2.2 83)), (1, .int v1), (2, .int v2)]) dX11_isTwice_1 rfl (Nat.le_of_ble_eq_true rfl) rfl ?_
  refine gv_iconst 2 S (0 : Int32) dX11_isTwice_2 (by decide) ?_
  refine gv_istore 3 S (lv' := [(4, .int (0 : Int32)), (3, .int (0 : Int32)), (0, .ref (X.2.2 83)), (1, .int v1), (2, .int v2)]) dX11_isTwice_3 (Nat.le_of_ble_eq_true rfl) rfl ?_
  exact gv_sub [2, 3, 4, 1, 0] rfl (t_X11_isTwice_5 S FU v1 v2 (0 : Int32) (0 : Int32) h)
theorem mi_X11_cue_11 : ∀ w ∈ u_ws RX11 TX11 39, w ∈ wsX11_cue := by decide +kernel
theorem mp_X11_cue_77 : MP wsX11_cue RX11 77 10 0 .int := ⟨RX11, TX11, 39, tyX11, rfl, by decide, mi_X11_cue_11, by decide +kernel, tyX11_ok, nmX11, rfl, by decide +kernel⟩
theorem mf_X11_cue_87 : MF wsX11_cue RX11 87 10 5 := ⟨RX11, TX11, 39, rfl, by decide, mi_X11_cue_11, by decide +kernel⟩
theorem mf_X11_cue_37 : MF wsX11_cue RX11 37 10 20 := ⟨RX11, TX11, 39, rfl, by decide, mi_X11_cue_11, by decide +kernel⟩
theorem mf_X11_cue_16 : MF wsX11_cue RX11 16 10 4 := ⟨RX11, TX11, 39, rfl, by decide, mi_X11_cue_11, by decide +kernel⟩
abbrev rm_X11_cue : Room := { frames := 3, cells := 0, slots := 0, locals := 65 }
set_option maxHeartbeats 4000000 in
set_option maxRecDepth 100000 in
theorem t_X11_cue_117 {p : Program} {l : Launch} {e : Env} {s : State} {m : MethodId} {args : Array Value} {below : List Frame} {meth : Method} {c : Code} {X : GE} {r : Int32} {M' : MM} (S : CX p s m args meth c cX11_cue 9 wsX11_cue RX11 (some .int) X) : ∀ (n : Nat) (M : MM) (v4 : Int32) (v6 : Int32) (v8 : Int32) (h : g_X11_cue_117 n M v4 v6 v8 = some (r, M')), V p l e (headSpec wsX11_cue rm_X11_cue).room s m args below meth c 9 X (MQ below (gQi X r M') args s 0 0 (gA X)) M 117 [(0, .ref (X.2.2 83)), (4, .int v4), (6, .int v6), (8, .int v8)] [] := by
  intro n
  induction n with
  | zero =>
    intro M v4 v6 v8 h
    rw [g_X11_cue_117] at h
    cases h
  | succ n ih =>
    intro M v4 v6 v8 h
    rw [g_X11_cue_117] at h
    refine gv_iload 117 S 3 dX11_cue_117 rfl ?_
    refine gv_iload 119 S 1 dX11_cue_119 rfl ?_
    refine gv_icmp_ge 121 S 161 h dX11_cue_121 (by decide) (fun h => ?_) (fun h => ?_)
    · refine gv_aload_n 161 S 0 0 dX11_cue_161 rfl rfl ?_
      obtain ⟨r21, M22, hc23, h⟩ := bi_some h
      refine gv_cVi 162 S (As := []) (rest := []) (c_X11_doCue l X M r21 M22 hc23) (hO_83 X) rfl (cwV 0 S.1.2.2.2.2 gX11_cue_X11_doCue rfl rfl rfl (by decide +kernel) ⟨Nat.le_of_ble_eq_true rfl, Nat.le_of_ble_eq_true rfl⟩) rfl rfl (Nat.le_of_ble_eq_true rfl) dX11_cue_162 ?_
      exact gv_iret 165 S h dX11_cue_165
    · refine gv_aload_n 124 S 0 0 dX11_cue_124 rfl rfl ?_
      refine gv_get 125 S (hF_83_goal X) mf_X11_cue_37 dX11_cue_125 ?_
      refine gv_aload_n 128 S 0 0 dX11_cue_128 rfl rfl ?_
      refine gv_get 129 S (hF_83_cells X) mf_X11_cue_16 dX11_cue_129 ?_
      refine gv_iload 132 S 2 dX11_cue_132 rfl ?_
      refine gv_iconst 134 S (2 : Int32) dX11_cue_134 (by decide) ?_
      refine gv_iload 135 S 3 dX11_cue_135 rfl ?_
      refine gv_imul 137 S dX11_cue_137 ?_
      refine gv_iadd 138 S dX11_cue_138 ?_
      refine gv_iald 139 S h (hI_86 X) dX11_cue_139 (fun h => ?_)
      refine gv_aload_n 140 S 0 0 dX11_cue_140 rfl rfl ?_
      refine gv_get 141 S (hF_83_cells X) mf_X11_cue_16 dX11_cue_141 ?_
      refine gv_iload 144 S 2 dX11_cue_144 rfl ?_
      refine gv_iconst 146 S (2 : Int32) dX11_cue_146 (by decide) ?_
      refine gv_iload 147 S 3 dX11_cue_147 rfl ?_
      refine gv_imul 149 S dX11_cue_149 ?_
      refine gv_iadd 150 S dX11_cue_150 ?_
      refine gv_iconst 151 S (1 : Int32) dX11_cue_151 (by decide) ?_
      refine gv_iadd 152 S dX11_cue_152 ?_
      refine gv_iald 153 S h (hI_86 X) dX11_cue_153 (fun h => ?_)
      refine gv_iast 154 S h (hI_93 X) dX11_cue_154 (fun M24 h => ?_)
      refine gv_iinc 155 S 3 (v8 + (1 : Int32)) (lv' := [(8, .int (v8 + (1 : Int32))), (0, .ref (X.2.2 83)), (4, .int v4), (6, .int v6)]) dX11_cue_155 rfl rfl (Nat.le_of_ble_eq_true rfl) rfl ?_
      refine gv_goto 158 S 117 dX11_cue_158 (by decide) ?_
      exact gv_sub [1, 2, 3, 0] rfl (ih M24 v4 v6 (v8 + (1 : Int32)) h)
set_option maxHeartbeats 4000000 in
set_option maxRecDepth 100000 in
theorem c_X11_cue (l : Launch) (X : GE) (M : MM) (v1 : Int32) (v2 : Int32) (v3 : Int32) (v4 : Int32) (r : Int32) (M' : MM) (h : f_X11_cue M v1 v2 v3 v4 = some (r, M')) : CTi l yX11_cue wsX11_cue rm_X11_cue X [.ref (X.2.2 83), .int v1, .int v2, .int v3, .int v4] M r M' := by
  refine ct_i (own := RX11) (by decide +kernel) rfl rfl (Nat.le_of_ble_eq_true rfl) (lv0 := [(0, .ref (X.2.2 83)), (1, .int v1), (2, .int v2), (3, .int v3), (4, .int v4)]) rfl ?_
  intro p e s m args below meth c S
  unfold f_X11_cue at h
  refine gv_aload_n 0 S 0 0 dX11_cue_0 rfl rfl ?_
  refine gv_iconst 1 S (0 : Int32) dX11_cue_1 (by decide) ?_
  refine gv_put 2 S h (hP_83_fault X) mp_X11_cue_77 rfl rfl dX11_cue_2 (fun M1 h => ?_)
  refine gv_iload_n 5 S 1 1 dX11_cue_5 rfl rfl ?_
  obtain ⟨r2, hc3, h⟩ := br_some h
  refine gv_cSi 6 S (As := [.int v1]) (rest := []) (c_X11_isSheet l X M1 v1 r2 hc3) (va_cwS 1 S.1.2.2.2.2 gX11_cue_X11_isSheet rfl rfl rfl (by decide +kernel) ⟨Nat.le_of_ble_eq_true rfl, Nat.le_of_ble_eq_true rfl⟩) rfl rfl (Nat.le_of_ble_eq_true rfl) dX11_cue_6 ?_
  refine gv_if_ne 9 S 14 h dX11_cue_9 (by decide) (fun h => ?_) (fun h => ?_)
  · refine gv_iload_n 14 S 2 2 dX11_cue_14 rfl rfl ?_
    obtain ⟨r4, hc5, h⟩ := br_some h
    refine gv_cSi 15 S (As := [.int v2]) (rest := []) (c_X11_isSort l X M1 v2 r4 hc5) (va_cwS 1 S.1.2.2.2.2 gX11_cue_X11_isSort rfl rfl rfl (by decide +kernel) ⟨Nat.le_of_ble_eq_true rfl, Nat.le_of_ble_eq_true rfl⟩) rfl rfl (Nat.le_of_ble_eq_true rfl) dX11_cue_15 ?_
    refine gv_if_eq 18 S 32 h dX11_cue_18 (by decide) (fun h => ?_) (fun h => ?_)
    · refine gv_bipush 32 S (-2 : Int32) dX11_cue_32 (by decide) ?_
      exact gv_iret 34 S h dX11_cue_34
    · refine gv_iload 21 S 4 dX11_cue_21 rfl ?_
      refine gv_iconst 23 S (0 : Int32) dX11_cue_23 (by decide) ?_
      refine gv_bipush 24 S (8 : Int32) dX11_cue_24 (by decide) ?_
      obtain ⟨r6, hc7, h⟩ := br_some h
      refine gv_cSi 26 S (As := [.int v4, .int (0 : Int32), .int (8 : Int32)]) (rest := []) (c_X11_within l X M1 v4 (0 : Int32) (8 : Int32) r6 hc7) (va_cwS 3 S.1.2.2.2.2 gX11_cue_X11_within rfl rfl rfl (by decide +kernel) ⟨Nat.le_of_ble_eq_true rfl, Nat.le_of_ble_eq_true rfl⟩) rfl rfl (Nat.le_of_ble_eq_true rfl) dX11_cue_26 ?_
      refine gv_if_ne 29 S 35 h dX11_cue_29 (by decide) (fun h => ?_) (fun h => ?_)
      · refine gv_aload_n 35 S 0 0 dX11_cue_35 rfl rfl ?_
        refine gv_iload_n 36 S 1 1 dX11_cue_36 rfl rfl ?_
        refine gv_iload_n 37 S 2 2 dX11_cue_37 rfl rfl ?_
        refine gv_iload_n 38 S 3 3 dX11_cue_38 rfl rfl ?_
        refine gv_iconst 39 S (2 : Int32) dX11_cue_39 (by decide) ?_
        refine gv_iload 40 S 4 dX11_cue_40 rfl ?_
        refine gv_imul 42 S dX11_cue_42 ?_
        obtain ⟨r8, hc9, h⟩ := br_some h
        refine gv_cVi 43 S (As := [.int v1, .int v2, .int v3, .int ((2 : Int32) * v4)]) (rest := []) (c_X11_against l X M1 v1 v2 v3 ((2 : Int32) * v4) r8 hc9) (hO_83 X) rfl (cwV 4 S.1.2.2.2.2 gX11_cue_X11_against rfl rfl rfl (by decide +kernel) ⟨Nat.le_of_ble_eq_true rfl, Nat.le_of_ble_eq_true rfl⟩) rfl rfl (Nat.le_of_ble_eq_true rfl) dX11_cue_43 ?_
        refine gv_istore 46 S (lv' := [(5, .int r8), (0, .ref (X.2.2 83)), (1, .int v1), (2, .int v2), (3, .int v3), (4, .int v4)]) dX11_cue_46 (Nat.le_of_ble_eq_true rfl) rfl ?_
        refine gv_iload 48 S 0 dX11_cue_48 rfl ?_
        refine gv_if_eq 50 S 60 h dX11_cue_50 (by decide) (fun h => ?_) (fun h => ?_)
        · refine gv_aload_n 60 S 0 1 dX11_cue_60 rfl rfl ?_
          refine gv_get 61 S (hF_83_battens X) mf_X11_cue_87 dX11_cue_61 ?_
          refine gv_if_ne 64 S 70 h dX11_cue_64 (by decide) (fun h => ?_) (fun h => ?_)
          · refine gv_bipush 70 S (60 : Int32) dX11_cue_70 (by decide) ?_
            refine gv_iload_n 72 S 1 2 dX11_cue_72 rfl rfl ?_
            refine gv_imul 73 S dX11_cue_73 ?_
            refine gv_iload_n 74 S 3 4 dX11_cue_74 rfl rfl ?_
            refine gv_iadd 75 S dX11_cue_75 ?_
            refine gv_nmi h (fun x10 h => ?_)
            refine gv_istore 76 S (lv' := [(6, .int x10), (5, .int r8), (0, .ref (X.2.2 83)), (1, .int v1), (2, .int v2), (3, .int v3), (4, .int v4)]) dX11_cue_76 (Nat.le_of_ble_eq_true rfl) rfl ?_
            refine gv_aload_n 78 S 0 2 dX11_cue_78 rfl rfl ?_
            refine gv_iload 79 S 0 dX11_cue_79 rfl ?_
            refine gv_iload 81 S 6 dX11_cue_81 rfl ?_
            obtain ⟨r11, hc12, h⟩ := br_some h
            refine gv_cVi 83 S (As := [.int x10, .int v4]) (rest := []) (c_X11_refusesPairs l X M1 x10 v4 r11 hc12) (hO_83 X) rfl (cwV 2 S.1.2.2.2.2 gX11_cue_X11_refusesPairs rfl rfl rfl (by decide +kernel) ⟨Nat.le_of_ble_eq_true rfl, Nat.le_of_ble_eq_true rfl⟩) rfl rfl (Nat.le_of_ble_eq_true rfl) dX11_cue_83 ?_
            refine gv_istore 86 S (lv' := [(7, .int r11), (6, .int x10), (5, .int r8), (0, .ref (X.2.2 83)), (1, .int v1), (2, .int v2), (3, .int v3), (4, .int v4)]) dX11_cue_86 (Nat.le_of_ble_eq_true rfl) rfl ?_
            refine gv_iload 88 S 0 dX11_cue_88 rfl ?_
            refine gv_if_eq 90 S 96 h dX11_cue_90 (by decide) (fun h => ?_) (fun h => ?_)
            · refine gv_aload_n 96 S 0 3 dX11_cue_96 rfl rfl ?_
              refine gv_iload 97 S 1 dX11_cue_97 rfl ?_
              refine gv_iload 99 S 7 dX11_cue_99 rfl ?_
              obtain ⟨r13, hc14, h⟩ := br_some h
              refine gv_cVi 101 S (As := [.int x10, .int v4]) (rest := []) (c_X11_isTwice l X M1 x10 v4 r13 hc14) (hO_83 X) rfl (cwV 2 S.1.2.2.2.2 gX11_cue_X11_isTwice rfl rfl rfl (by decide +kernel) ⟨Nat.le_of_ble_eq_true rfl, Nat.le_of_ble_eq_true rfl⟩) rfl rfl (Nat.le_of_ble_eq_true rfl) dX11_cue_101 ?_
              refine gv_if_eq 104 S 110 h dX11_cue_104 (by decide) (fun h => ?_) (fun h => ?_)
              · refine gv_aload_n 110 S 0 3 dX11_cue_110 rfl rfl ?_
                obtain ⟨M16, hc17, h⟩ := br_some h
                refine gv_cVv 111 S (As := []) (rest := []) (c_X11_goalsAsNow l X M1 M16 hc17) (hO_83 X) rfl (cwV 0 S.1.2.2.2.2 gX11_cue_X11_goalsAsNow rfl rfl rfl (by decide +kernel) ⟨Nat.le_of_ble_eq_true rfl, Nat.le_of_ble_eq_true rfl⟩) rfl rfl (Nat.le_of_ble_eq_true rfl) dX11_cue_111 ?_
                refine gv_iconst 114 S (0 : Int32) dX11_cue_114 (by decide) ?_
                refine gv_istore 115 S (lv' := [(8, .int (0 : Int32)), (7, .int r11), (6, .int x10), (5, .int r8), (0, .ref (X.2.2 83)), (1, .int v1), (2, .int v2), (3, .int v3), (4, .int v4)]) dX11_cue_115 (Nat.le_of_ble_eq_true rfl) rfl ?_
                exact gv_sub [4, 8, 2, 0] rfl (t_X11_cue_117 S FU M16 v4 x10 (0 : Int32) h)
              · refine gv_bipush 107 S (-3 : Int32) dX11_cue_107 (by decide) ?_
                exact gv_iret 109 S h dX11_cue_109
            · refine gv_iload 93 S 0 dX11_cue_93 rfl ?_
              exact gv_iret 95 S h dX11_cue_95
          · refine gv_bipush 67 S (-3 : Int32) dX11_cue_67 (by decide) ?_
            exact gv_iret 69 S h dX11_cue_69
        · refine gv_aload_n 53 S 0 1 dX11_cue_53 rfl rfl ?_
          refine gv_iload 54 S 0 dX11_cue_54 rfl ?_
          obtain ⟨r18, M19, hc20, h⟩ := bi_some h
          refine gv_cVi 56 S (As := [.int r8]) (rest := []) (c_X11_fails l X M1 r8 r18 M19 hc20) (hO_83 X) rfl (cwV 1 S.1.2.2.2.2 gX11_cue_X11_fails rfl rfl rfl (by decide +kernel) ⟨Nat.le_of_ble_eq_true rfl, Nat.le_of_ble_eq_true rfl⟩) rfl rfl (Nat.le_of_ble_eq_true rfl) dX11_cue_56 ?_
          exact gv_iret 59 S h dX11_cue_59
      · refine gv_bipush 32 S (-2 : Int32) dX11_cue_32 (by decide) ?_
        exact gv_iret 34 S h dX11_cue_34
  · refine gv_iconst 12 S (-1 : Int32) dX11_cue_12 (by decide) ?_
    exact gv_iret 13 S h dX11_cue_13
theorem mi_X11_runsAway_11 : ∀ w ∈ u_ws RX11 TX11 39, w ∈ wsX11_runsAway := by decide +kernel
theorem mf_X11_runsAway_25 : MF wsX11_runsAway RX11 25 10 11 := ⟨RX11, TX11, 39, rfl, by decide, mi_X11_runsAway_11, by decide +kernel⟩
theorem mf_X11_runsAway_22 : MF wsX11_runsAway RX11 22 10 10 := ⟨RX11, TX11, 39, rfl, by decide, mi_X11_runsAway_11, by decide +kernel⟩
theorem mf_X11_runsAway_117 : MF wsX11_runsAway RX11 117 10 6 := ⟨RX11, TX11, 39, rfl, by decide, mi_X11_runsAway_11, by decide +kernel⟩
theorem mf_X11_runsAway_28 : MF wsX11_runsAway RX11 28 10 12 := ⟨RX11, TX11, 39, rfl, by decide, mi_X11_runsAway_11, by decide +kernel⟩
abbrev rm_X11_runsAway : Room := { frames := 0, cells := 0, slots := 0, locals := 0 }
set_option maxHeartbeats 4000000 in
set_option maxRecDepth 100000 in
theorem c_X11_runsAway (l : Launch) (X : GE) (M : MM) (v1 : Int32) (r : Int32) (M' : MM) (h : f_X11_runsAway M v1 = some (r, M')) : CTi l yX11_runsAway wsX11_runsAway rm_X11_runsAway X [.ref (X.2.2 83), .int v1] M r M' := by
  refine ct_i (own := RX11) (by decide +kernel) rfl rfl (Nat.le_of_ble_eq_true rfl) (lv0 := [(0, .ref (X.2.2 83)), (1, .int v1)]) rfl ?_
  intro p e s m args below meth c S
  unfold f_X11_runsAway at h
  refine gv_aload_n 0 S 0 0 dX11_runsAway_0 rfl rfl ?_
  refine gv_get 1 S (hF_83_bricks X) mf_X11_runsAway_25 dX11_runsAway_1 ?_
  refine gv_iload_n 4 S 1 1 dX11_runsAway_4 rfl rfl ?_
  refine gv_iald 5 S h (hI_89 X) dX11_runsAway_5 (fun h => ?_)
  refine gv_aload_n 6 S 0 0 dX11_runsAway_6 rfl rfl ?_
  refine gv_get 7 S (hF_83_load X) mf_X11_runsAway_22 dX11_runsAway_7 ?_
  refine gv_iload_n 10 S 1 1 dX11_runsAway_10 rfl rfl ?_
  refine gv_iald 11 S h (hI_88 X) dX11_runsAway_11 (fun h => ?_)
  refine gv_isub 12 S dX11_runsAway_12 ?_
  refine gv_aload_n 13 S 0 0 dX11_runsAway_13 rfl rfl ?_
  refine gv_get 14 S (hF_83_hands X) mf_X11_runsAway_117 dX11_runsAway_14 ?_
  refine gv_icmp_gt 17 S 22 h dX11_runsAway_17 (by decide) (fun h => ?_) (fun h => ?_)
  · refine gv_aload_n 22 S 0 0 dX11_runsAway_22 rfl rfl ?_
    refine gv_get 23 S (hF_83_height X) mf_X11_runsAway_28 dX11_runsAway_23 ?_
    refine gv_iload_n 26 S 1 1 dX11_runsAway_26 rfl rfl ?_
    refine gv_bipush 27 S (9 : Int32) dX11_runsAway_27 (by decide) ?_
    refine gv_iast 29 S h (hI_90 X) dX11_runsAway_29 (fun M1 h => ?_)
    refine gv_iconst 30 S (1 : Int32) dX11_runsAway_30 (by decide) ?_
    exact gv_iret 31 S h dX11_runsAway_31
  · refine gv_iconst 20 S (0 : Int32) dX11_runsAway_20 (by decide) ?_
    exact gv_iret 21 S h dX11_runsAway_21
theorem mi_X11_hang_11 : ∀ w ∈ u_ws RX11 TX11 39, w ∈ wsX11_hang := by decide +kernel
theorem mf_X11_hang_28 : MF wsX11_hang RX11 28 10 12 := ⟨RX11, TX11, 39, rfl, by decide, mi_X11_hang_11, by decide +kernel⟩
theorem mf_X11_hang_22 : MF wsX11_hang RX11 22 10 10 := ⟨RX11, TX11, 39, rfl, by decide, mi_X11_hang_11, by decide +kernel⟩
abbrev rm_X11_hang : Room := { frames := 2, cells := 0, slots := 0, locals := 44 }
set_option maxHeartbeats 4000000 in
set_option maxRecDepth 100000 in
theorem c_X11_hang (l : Launch) (X : GE) (M : MM) (v1 : Int32) (v2 : Int32) (r : Int32) (M' : MM) (h : f_X11_hang M v1 v2 = some (r, M')) : CTi l yX11_hang wsX11_hang rm_X11_hang X [.ref (X.2.2 83), .int v1, .int v2] M r M' := by
  refine ct_i (own := RX11) (by decide +kernel) rfl rfl (Nat.le_of_ble_eq_true rfl) (lv0 := [(0, .ref (X.2.2 83)), (1, .int v1), (2, .int v2)]) rfl ?_
  intro p e s m args below meth c S
  unfold f_X11_hang at h
  refine gv_aload_n 0 S 0 0 dX11_hang_0 rfl rfl ?_
  refine gv_iload_n 1 S 1 1 dX11_hang_1 rfl rfl ?_
  obtain ⟨r1, hc2, h⟩ := br_some h
  refine gv_cVi 2 S (As := [.int v1]) (rest := []) (c_X11_isBatten l X M v1 r1 hc2) (hO_83 X) rfl (cwV 1 S.1.2.2.2.2 gX11_hang_X11_isBatten rfl rfl rfl (by decide +kernel) ⟨Nat.le_of_ble_eq_true rfl, Nat.le_of_ble_eq_true rfl⟩) rfl rfl (Nat.le_of_ble_eq_true rfl) dX11_hang_2 ?_
  refine gv_if_ne 5 S 10 h dX11_hang_5 (by decide) (fun h => ?_) (fun h => ?_)
  · refine gv_iload_n 10 S 2 2 dX11_hang_10 rfl rfl ?_
    obtain ⟨r3, hc4, h⟩ := br_some h
    refine gv_cSi 11 S (As := [.int v2]) (rest := []) (c_X11_isDigit l X M v2 r3 hc4) (va_cwS 1 S.1.2.2.2.2 gX11_hang_X11_isDigit rfl rfl rfl (by decide +kernel) ⟨Nat.le_of_ble_eq_true rfl, Nat.le_of_ble_eq_true rfl⟩) rfl rfl (Nat.le_of_ble_eq_true rfl) dX11_hang_11 ?_
    refine gv_if_ne 14 S 20 h dX11_hang_14 (by decide) (fun h => ?_) (fun h => ?_)
    · refine gv_aload_n 20 S 0 0 dX11_hang_20 rfl rfl ?_
      refine gv_get 21 S (hF_83_height X) mf_X11_hang_28 dX11_hang_21 ?_
      refine gv_iload_n 24 S 1 1 dX11_hang_24 rfl rfl ?_
      refine gv_iald 25 S h (hI_90 X) dX11_hang_25 (fun h => ?_)
      refine gv_if_eq 26 S 32 h dX11_hang_26 (by decide) (fun h => ?_) (fun h => ?_)
      · refine gv_aload_n 32 S 0 0 dX11_hang_32 rfl rfl ?_
        obtain ⟨M6, hc7, h⟩ := br_some h
        refine gv_cVv 33 S (As := []) (rest := []) (c_X11_remember l X M M6 hc7) (hO_83 X) rfl (cwV 0 S.1.2.2.2.2 gX11_hang_X11_remember rfl rfl rfl (by decide +kernel) ⟨Nat.le_of_ble_eq_true rfl, Nat.le_of_ble_eq_true rfl⟩) rfl rfl (Nat.le_of_ble_eq_true rfl) dX11_hang_33 ?_
        refine gv_aload_n 36 S 0 0 dX11_hang_36 rfl rfl ?_
        refine gv_get 37 S (hF_83_load X) mf_X11_hang_22 dX11_hang_37 ?_
        refine gv_iload_n 40 S 1 1 dX11_hang_40 rfl rfl ?_
        refine gv_iload_n 41 S 2 2 dX11_hang_41 rfl rfl ?_
        refine gv_iast 42 S h (hI_88 X) dX11_hang_42 (fun M8 h => ?_)
        refine gv_aload_n 43 S 0 0 dX11_hang_43 rfl rfl ?_
        refine gv_iload_n 44 S 1 1 dX11_hang_44 rfl rfl ?_
        obtain ⟨r9, M10, hc11, h⟩ := bi_some h
        refine gv_cVi 45 S (As := [.int v1]) (rest := []) (c_X11_runsAway l X M8 v1 r9 M10 hc11) (hO_83 X) rfl (cwV 1 S.1.2.2.2.2 gX11_hang_X11_runsAway rfl rfl rfl (by decide +kernel) ⟨Nat.le_of_ble_eq_true rfl, Nat.le_of_ble_eq_true rfl⟩) rfl rfl (Nat.le_of_ble_eq_true rfl) dX11_hang_45 ?_
        exact gv_iret 48 S h dX11_hang_48
      · refine gv_bipush 29 S (-3 : Int32) dX11_hang_29 (by decide) ?_
        exact gv_iret 31 S h dX11_hang_31
    · refine gv_bipush 17 S (-2 : Int32) dX11_hang_17 (by decide) ?_
      exact gv_iret 19 S h dX11_hang_19
  · refine gv_iconst 8 S (-1 : Int32) dX11_hang_8 (by decide) ?_
    exact gv_iret 9 S h dX11_hang_9
theorem mi_X11_brick_11 : ∀ w ∈ u_ws RX11 TX11 39, w ∈ wsX11_brick := by decide +kernel
theorem mf_X11_brick_28 : MF wsX11_brick RX11 28 10 12 := ⟨RX11, TX11, 39, rfl, by decide, mi_X11_brick_11, by decide +kernel⟩
theorem mf_X11_brick_25 : MF wsX11_brick RX11 25 10 11 := ⟨RX11, TX11, 39, rfl, by decide, mi_X11_brick_11, by decide +kernel⟩
theorem mf_X11_brick_129 : MF wsX11_brick RX11 129 10 8 := ⟨RX11, TX11, 39, rfl, by decide, mi_X11_brick_11, by decide +kernel⟩
theorem mp_X11_brick_129 : MP wsX11_brick RX11 129 10 8 .int := ⟨RX11, TX11, 39, tyX11, rfl, by decide, mi_X11_brick_11, by decide +kernel, tyX11_ok, nmX11, rfl, by decide +kernel⟩
abbrev rm_X11_brick : Room := { frames := 2, cells := 0, slots := 0, locals := 44 }
set_option maxHeartbeats 4000000 in
set_option maxRecDepth 100000 in
theorem c_X11_brick (l : Launch) (X : GE) (M : MM) (v1 : Int32) (v2 : Int32) (r : Int32) (M' : MM) (h : f_X11_brick M v1 v2 = some (r, M')) : CTi l yX11_brick wsX11_brick rm_X11_brick X [.ref (X.2.2 83), .int v1, .int v2] M r M' := by
  refine ct_i (own := RX11) (by decide +kernel) rfl rfl (Nat.le_of_ble_eq_true rfl) (lv0 := [(0, .ref (X.2.2 83)), (1, .int v1), (2, .int v2)]) rfl ?_
  intro p e s m args below meth c S
  unfold f_X11_brick at h
  refine gv_aload_n 0 S 0 0 dX11_brick_0 rfl rfl ?_
  refine gv_iload_n 1 S 1 1 dX11_brick_1 rfl rfl ?_
  obtain ⟨r1, hc2, h⟩ := br_some h
  refine gv_cVi 2 S (As := [.int v1]) (rest := []) (c_X11_isBatten l X M v1 r1 hc2) (hO_83 X) rfl (cwV 1 S.1.2.2.2.2 gX11_brick_X11_isBatten rfl rfl rfl (by decide +kernel) ⟨Nat.le_of_ble_eq_true rfl, Nat.le_of_ble_eq_true rfl⟩) rfl rfl (Nat.le_of_ble_eq_true rfl) dX11_brick_2 ?_
  refine gv_if_ne 5 S 10 h dX11_brick_5 (by decide) (fun h => ?_) (fun h => ?_)
  · refine gv_iload_n 10 S 2 2 dX11_brick_10 rfl rfl ?_
    obtain ⟨r3, hc4, h⟩ := br_some h
    refine gv_cSi 11 S (As := [.int v2]) (rest := []) (c_X11_isDigit l X M v2 r3 hc4) (va_cwS 1 S.1.2.2.2.2 gX11_brick_X11_isDigit rfl rfl rfl (by decide +kernel) ⟨Nat.le_of_ble_eq_true rfl, Nat.le_of_ble_eq_true rfl⟩) rfl rfl (Nat.le_of_ble_eq_true rfl) dX11_brick_11 ?_
    refine gv_if_ne 14 S 20 h dX11_brick_14 (by decide) (fun h => ?_) (fun h => ?_)
    · refine gv_aload_n 20 S 0 0 dX11_brick_20 rfl rfl ?_
      refine gv_get 21 S (hF_83_height X) mf_X11_brick_28 dX11_brick_21 ?_
      refine gv_iload_n 24 S 1 1 dX11_brick_24 rfl rfl ?_
      refine gv_iald 25 S h (hI_90 X) dX11_brick_25 (fun h => ?_)
      refine gv_if_ne 26 S 44 h dX11_brick_26 (by decide) (fun h => ?_) (fun h => ?_)
      · refine gv_bipush 44 S (-3 : Int32) dX11_brick_44 (by decide) ?_
        exact gv_iret 46 S h dX11_brick_46
      · refine gv_iload_n 29 S 2 2 dX11_brick_29 rfl rfl ?_
        refine gv_aload_n 30 S 0 0 dX11_brick_30 rfl rfl ?_
        refine gv_get 31 S (hF_83_bricks X) mf_X11_brick_25 dX11_brick_31 ?_
        refine gv_iload_n 34 S 1 1 dX11_brick_34 rfl rfl ?_
        refine gv_iald 35 S h (hI_89 X) dX11_brick_35 (fun h => ?_)
        refine gv_isub 36 S dX11_brick_36 ?_
        refine gv_aload_n 37 S 0 0 dX11_brick_37 rfl rfl ?_
        refine gv_get 38 S (hF_83_stock X) mf_X11_brick_129 dX11_brick_38 ?_
        refine gv_icmp_le 41 S 47 h dX11_brick_41 (by decide) (fun h => ?_) (fun h => ?_)
        · refine gv_aload_n 47 S 0 0 dX11_brick_47 rfl rfl ?_
          obtain ⟨M6, hc7, h⟩ := br_some h
          refine gv_cVv 48 S (As := []) (rest := []) (c_X11_remember l X M M6 hc7) (hO_83 X) rfl (cwV 0 S.1.2.2.2.2 gX11_brick_X11_remember rfl rfl rfl (by decide +kernel) ⟨Nat.le_of_ble_eq_true rfl, Nat.le_of_ble_eq_true rfl⟩) rfl rfl (Nat.le_of_ble_eq_true rfl) dX11_brick_48 ?_
          refine gv_aload_n 51 S 0 0 dX11_brick_51 rfl rfl ?_
          refine gv_dup 52 S dX11_brick_52 rfl ?_
          refine gv_get 53 S (hF_83_stock X) mf_X11_brick_129 dX11_brick_53 ?_
          refine gv_aload_n 56 S 0 0 dX11_brick_56 rfl rfl ?_
          refine gv_get 57 S (hF_83_bricks X) mf_X11_brick_25 dX11_brick_57 ?_
          refine gv_iload_n 60 S 1 1 dX11_brick_60 rfl rfl ?_
          refine gv_iald 61 S h (hI_89 X) dX11_brick_61 (fun h => ?_)
          refine gv_iload_n 62 S 2 2 dX11_brick_62 rfl rfl ?_
          refine gv_isub 63 S dX11_brick_63 ?_
          refine gv_iadd 64 S dX11_brick_64 ?_
          refine gv_put 65 S h (hP_83_stock X) mp_X11_brick_129 rfl rfl dX11_brick_65 (fun M8 h => ?_)
          refine gv_aload_n 68 S 0 0 dX11_brick_68 rfl rfl ?_
          refine gv_get 69 S (hF_83_bricks X) mf_X11_brick_25 dX11_brick_69 ?_
          refine gv_iload_n 72 S 1 1 dX11_brick_72 rfl rfl ?_
          refine gv_iload_n 73 S 2 2 dX11_brick_73 rfl rfl ?_
          refine gv_iast 74 S h (hI_89 X) dX11_brick_74 (fun M9 h => ?_)
          refine gv_aload_n 75 S 0 0 dX11_brick_75 rfl rfl ?_
          refine gv_iload_n 76 S 1 1 dX11_brick_76 rfl rfl ?_
          obtain ⟨r10, M11, hc12, h⟩ := bi_some h
          refine gv_cVi 77 S (As := [.int v1]) (rest := []) (c_X11_runsAway l X M9 v1 r10 M11 hc12) (hO_83 X) rfl (cwV 1 S.1.2.2.2.2 gX11_brick_X11_runsAway rfl rfl rfl (by decide +kernel) ⟨Nat.le_of_ble_eq_true rfl, Nat.le_of_ble_eq_true rfl⟩) rfl rfl (Nat.le_of_ble_eq_true rfl) dX11_brick_77 ?_
          exact gv_iret 80 S h dX11_brick_80
        · refine gv_bipush 44 S (-3 : Int32) dX11_brick_44 (by decide) ?_
          exact gv_iret 46 S h dX11_brick_46
    · refine gv_bipush 17 S (-2 : Int32) dX11_brick_17 (by decide) ?_
      exact gv_iret 19 S h dX11_brick_19
  · refine gv_iconst 8 S (-1 : Int32) dX11_brick_8 (by decide) ?_
    exact gv_iret 9 S h dX11_brick_9
theorem mi_X11_readBack_11 : ∀ w ∈ u_ws RX11 TX11 39, w ∈ wsX11_readBack := by decide +kernel
theorem mp_X11_readBack_129 : MP wsX11_readBack RX11 129 10 8 .int := ⟨RX11, TX11, 39, tyX11, rfl, by decide, mi_X11_readBack_11, by decide +kernel, tyX11_ok, nmX11, rfl, by decide +kernel⟩
theorem mf_X11_readBack_28 : MF wsX11_readBack RX11 28 10 12 := ⟨RX11, TX11, 39, rfl, by decide, mi_X11_readBack_11, by decide +kernel⟩
theorem mf_X11_readBack_22 : MF wsX11_readBack RX11 22 10 10 := ⟨RX11, TX11, 39, rfl, by decide, mi_X11_readBack_11, by decide +kernel⟩
theorem mf_X11_readBack_25 : MF wsX11_readBack RX11 25 10 11 := ⟨RX11, TX11, 39, rfl, by decide, mi_X11_readBack_11, by decide +kernel⟩
abbrev rm_X11_readBack : Room := { frames := 0, cells := 0, slots := 0, locals := 0 }
set_option maxHeartbeats 4000000 in
set_option maxRecDepth 100000 in
theorem t_X11_readBack_2 {p : Program} {l : Launch} {e : Env} {s : State} {m : MethodId} {args : Array Value} {below : List Frame} {meth : Method} {c : Code} {X : GE} {M' : MM} (S : CX p s m args meth c cX11_readBack 4 wsX11_readBack RX11 none X) (k1 : Nat) (nk1 : Nat) (hk1 : hI X k1 nk1) : ∀ (n : Nat) (M : MM) (v2 : Int32) (v3 : Int32) (h : g_X11_readBack_2 k1 nk1 n M v2 v3 = some M'), V p l e (headSpec wsX11_readBack rm_X11_readBack).room s m args below meth c 4 X (MQ below (gQv X M') args s 0 0 (gA X)) M 2 [(0, .ref (X.2.2 83)), (1, .ref (X.2.2 k1)), (2, .int v2), (3, .int v3)] [] := by
  intro n
  induction n with
  | zero =>
    intro M v2 v3 h
    rw [g_X11_readBack_2] at h
    cases h
  | succ n ih =>
    intro M v2 v3 h
    rw [g_X11_readBack_2] at h
    refine gv_iload_n 2 S 3 3 dX11_readBack_2 rfl rfl ?_
    refine gv_bipush 3 S (8 : Int32) dX11_readBack_3 (by decide) ?_
    refine gv_icmp_ge 5 S 53 h dX11_readBack_5 (by decide) (fun h => ?_) (fun h => ?_)
    · refine gv_aload_n 53 S 0 0 dX11_readBack_53 rfl rfl ?_
      refine gv_aload_n 54 S 1 1 dX11_readBack_54 rfl rfl ?_
      refine gv_iload_n 55 S 2 2 dX11_readBack_55 rfl rfl ?_
      refine gv_bipush 56 S (24 : Int32) dX11_readBack_56 (by decide) ?_
      refine gv_iadd 58 S dX11_readBack_58 ?_
      refine gv_iald 59 S h hk1 dX11_readBack_59 (fun h => ?_)
      refine gv_put 60 S h (hP_83_stock X) mp_X11_readBack_129 rfl rfl dX11_readBack_60 (fun M1 h => ?_)
      exact gv_vret 63 S h dX11_readBack_63
    · refine gv_aload_n 8 S 0 0 dX11_readBack_8 rfl rfl ?_
      refine gv_get 9 S (hF_83_height X) mf_X11_readBack_28 dX11_readBack_9 ?_
      refine gv_iload_n 12 S 3 3 dX11_readBack_12 rfl rfl ?_
      refine gv_aload_n 13 S 1 1 dX11_readBack_13 rfl rfl ?_
      refine gv_iload_n 14 S 2 2 dX11_readBack_14 rfl rfl ?_
      refine gv_iload_n 15 S 3 3 dX11_readBack_15 rfl rfl ?_
      refine gv_iadd 16 S dX11_readBack_16 ?_
      refine gv_iald 17 S h hk1 dX11_readBack_17 (fun h => ?_)
      refine gv_iast 18 S h (hI_90 X) dX11_readBack_18 (fun M2 h => ?_)
      refine gv_aload_n 19 S 0 0 dX11_readBack_19 rfl rfl ?_
      refine gv_get 20 S (hF_83_load X) mf_X11_readBack_22 dX11_readBack_20 ?_
      refine gv_iload_n 23 S 3 3 dX11_readBack_23 rfl rfl ?_
      refine gv_aload_n 24 S 1 1 dX11_readBack_24 rfl rfl ?_
      refine gv_iload_n 25 S 2 2 dX11_readBack_25 rfl rfl ?_
      refine gv_bipush 26 S (8 : Int32) dX11_readBack_26 (by decide) ?_
      refine gv_iadd 28 S dX11_readBack_28 ?_
      refine gv_iload_n 29 S 3 3 dX11_readBack_29 rfl rfl ?_
      refine gv_iadd 30 S dX11_readBack_30 ?_
      refine gv_iald 31 S h hk1 dX11_readBack_31 (fun h => ?_)
      refine gv_iast 32 S h (hI_88 X) dX11_readBack_32 (fun M3 h => ?_)
      refine gv_aload_n 33 S 0 0 dX11_readBack_33 rfl rfl ?_
      refine gv_get 34 S (hF_83_bricks X) mf_X11_readBack_25 dX11_readBack_34 ?_
      refine gv_iload_n 37 S 3 3 dX11_readBack_37 rfl rfl ?_
      refine gv_aload_n 38 S 1 1 dX11_readBack_38 rfl rfl ?_
      refine gv_iload_n 39 S 2 2 dX11_readBack_39 rfl rfl ?_
      refine gv_bipush 40 S (16 : Int32) dX11_readBack_40 (by decide) ?_
      refine gv_iadd 42 S dX11_readBack_42 ?_
      refine gv_iload_n 43 S 3 3 dX11_readBack_43 rfl rfl ?_
      refine gv_iadd 44 S dX11_readBack_44 ?_
      refine gv_iald 45 S h hk1 dX11_readBack_45 (fun h => ?_)
      refine gv_iast 46 S h (hI_89 X) dX11_readBack_46 (fun M4 h => ?_)
      refine gv_iinc 47 S 3 (v3 + (1 : Int32)) (lv' := [(3, .int (v3 + (1 : Int32))), (0, .ref (X.2.2 83)), (1, .ref (X.2.2 k1)), (2, .int v2)]) dX11_readBack_47 rfl rfl (Nat.le_of_ble_eq_true rfl) rfl ?_
      refine gv_goto 50 S 2 dX11_readBack_50 (by decide) ?_
      exact gv_sub [1, 2, 3, 0] rfl (ih M4 v2 (v3 + (1 : Int32)) h)
set_option maxHeartbeats 4000000 in
set_option maxRecDepth 100000 in
theorem c_X11_readBack (l : Launch) (X : GE) (M : MM) (k1 : Nat) (n1 : Nat) (v2 : Int32) (hk1 : hI X k1 n1) (M' : MM) (h : f_X11_readBack M k1 n1 v2 = some M') : CTv l yX11_readBack wsX11_readBack rm_X11_readBack X [.ref (X.2.2 83), .ref (X.2.2 k1), .int v2] M M' := by
  refine ct_v (own := RX11) (by decide +kernel) rfl rfl (Nat.le_of_ble_eq_true rfl) (lv0 := [(0, .ref (X.2.2 83)), (1, .ref (X.2.2 k1)), (2, .int v2)]) rfl ?_
  intro p e s m args below meth c S
  unfold f_X11_readBack at h
  refine gv_iconst 0 S (0 : Int32) dX11_readBack_0 (by decide) ?_
  refine gv_istore_n 1 S 3 (lv' := [(3, .int (0 : Int32)), (0, .ref (X.2.2 83)), (1, .ref (X.2.2 k1)), (2, .int v2)]) dX11_readBack_1 rfl (Nat.le_of_ble_eq_true rfl) rfl ?_
  exact gv_sub [1, 2, 3, 0] rfl (t_X11_readBack_2 S k1 n1 hk1 FU M v2 (0 : Int32) h)
theorem mi_X11_undo_11 : ∀ w ∈ u_ws RX11 TX11 39, w ∈ wsX11_undo := by decide +kernel
theorem mf_X11_undo_135 : MF wsX11_undo RX11 135 10 21 := ⟨RX11, TX11, 39, rfl, by decide, mi_X11_undo_11, by decide +kernel⟩
theorem mp_X11_undo_135 : MP wsX11_undo RX11 135 10 21 .int := ⟨RX11, TX11, 39, tyX11, rfl, by decide, mi_X11_undo_11, by decide +kernel, tyX11_ok, nmX11, rfl, by decide +kernel⟩
theorem mf_X11_undo_40 : MF wsX11_undo RX11 40 10 22 := ⟨RX11, TX11, 39, rfl, by decide, mi_X11_undo_11, by decide +kernel⟩
abbrev rm_X11_undo : Room := { frames := 1, cells := 0, slots := 0, locals := 23 }
set_option maxHeartbeats 4000000 in
set_option maxRecDepth 100000 in
theorem c_X11_undo (l : Launch) (X : GE) (M : MM) (r : Int32) (M' : MM) (h : f_X11_undo M = some (r, M')) : CTi l yX11_undo wsX11_undo rm_X11_undo X [.ref (X.2.2 83)] M r M' := by
  refine ct_i (own := RX11) (by decide +kernel) rfl rfl (Nat.le_of_ble_eq_true rfl) (lv0 := [(0, .ref (X.2.2 83))]) rfl ?_
  intro p e s m args below meth c S
  unfold f_X11_undo at h
  refine gv_aload_n 0 S 0 0 dX11_undo_0 rfl rfl ?_
  refine gv_get 1 S (hF_83_known X) mf_X11_undo_135 dX11_undo_1 ?_
  refine gv_if_ne 4 S 10 h dX11_undo_4 (by decide) (fun h => ?_) (fun h => ?_)
  · refine gv_aload_n 10 S 0 0 dX11_undo_10 rfl rfl ?_
    refine gv_dup 11 S dX11_undo_11 rfl ?_
    refine gv_get 12 S (hF_83_known X) mf_X11_undo_135 dX11_undo_12 ?_
    refine gv_iconst 15 S (1 : Int32) dX11_undo_15 (by decide) ?_
    refine gv_isub 16 S dX11_undo_16 ?_
    refine gv_put 17 S h (hP_83_known X) mp_X11_undo_135 rfl rfl dX11_undo_17 (fun M1 h => ?_)
    refine gv_aload_n 20 S 0 0 dX11_undo_20 rfl rfl ?_
    refine gv_aload_n 21 S 0 0 dX11_undo_21 rfl rfl ?_
    refine gv_get 22 S (hF_83_before X) mf_X11_undo_40 dX11_undo_22 ?_
    refine gv_bipush 25 S (25 : Int32) dX11_undo_25 (by decide) ?_
    refine gv_aload_n 27 S 0 0 dX11_undo_27 rfl rfl ?_
    refine gv_get 28 S (hF_83_known X) mf_X11_undo_135 dX11_undo_28 ?_
    refine gv_imul 31 S dX11_undo_31 ?_
    obtain ⟨M3, hc4, h⟩ := br_some h
    refine gv_cVv 32 S (As := [.ref (X.2.2 94), .int ((25 : Int32) * (M1 83 21))]) (rest := []) (c_X11_readBack l X M1 94 200 ((25 : Int32) * (M1 83 21)) (hI_94 X) M3 hc4) (hO_83 X) rfl (cwV 2 S.1.2.2.2.2 gX11_undo_X11_readBack rfl rfl rfl (by decide +kernel) ⟨Nat.le_of_ble_eq_true rfl, Nat.le_of_ble_eq_true rfl⟩) rfl rfl (Nat.le_of_ble_eq_true rfl) dX11_undo_32 ?_
    refine gv_aload_n 35 S 0 0 dX11_undo_35 rfl rfl ?_
    refine gv_get 36 S (hF_83_known X) mf_X11_undo_135 dX11_undo_36 ?_
    exact gv_iret 39 S h dX11_undo_39
  · refine gv_bipush 7 S (-3 : Int32) dX11_undo_7 (by decide) ?_
    exact gv_iret 9 S h dX11_undo_9
theorem mi_X11_keep_11 : ∀ w ∈ u_ws RX11 TX11 39, w ∈ wsX11_keep := by decide +kernel
theorem mf_X11_keep_87 : MF wsX11_keep RX11 87 10 5 := ⟨RX11, TX11, 39, rfl, by decide, mi_X11_keep_11, by decide +kernel⟩
theorem mf_X11_keep_47 : MF wsX11_keep RX11 47 10 24 := ⟨RX11, TX11, 39, rfl, by decide, mi_X11_keep_11, by decide +kernel⟩
theorem mf_X11_keep_50 : MF wsX11_keep RX11 50 10 25 := ⟨RX11, TX11, 39, rfl, by decide, mi_X11_keep_11, by decide +kernel⟩
theorem mf_X11_keep_117 : MF wsX11_keep RX11 117 10 6 := ⟨RX11, TX11, 39, rfl, by decide, mi_X11_keep_11, by decide +kernel⟩
theorem mf_X11_keep_53 : MF wsX11_keep RX11 53 10 26 := ⟨RX11, TX11, 39, rfl, by decide, mi_X11_keep_11, by decide +kernel⟩
theorem mf_X11_keep_123 : MF wsX11_keep RX11 123 10 7 := ⟨RX11, TX11, 39, rfl, by decide, mi_X11_keep_11, by decide +kernel⟩
theorem mf_X11_keep_43 : MF wsX11_keep RX11 43 10 23 := ⟨RX11, TX11, 39, rfl, by decide, mi_X11_keep_11, by decide +kernel⟩
abbrev rm_X11_keep : Room := { frames := 1, cells := 0, slots := 0, locals := 23 }
set_option maxHeartbeats 4000000 in
set_option maxRecDepth 100000 in
theorem c_X11_keep (l : Launch) (X : GE) (M : MM) (v1 : Int32) (r : Int32) (M' : MM) (h : f_X11_keep M v1 = some (r, M')) : CTi l yX11_keep wsX11_keep rm_X11_keep X [.ref (X.2.2 83), .int v1] M r M' := by
  refine ct_i (own := RX11) (by decide +kernel) rfl rfl (Nat.le_of_ble_eq_true rfl) (lv0 := [(0, .ref (X.2.2 83)), (1, .int v1)]) rfl ?_
  intro p e s m args below meth c S
  unfold f_X11_keep at h
  refine gv_iload_n 0 S 1 1 dX11_keep_0 rfl rfl ?_
  refine gv_iconst 1 S (0 : Int32) dX11_keep_1 (by decide) ?_
  refine gv_iconst 2 S (1 : Int32) dX11_keep_2 (by decide) ?_
  obtain ⟨r1, hc2, h⟩ := br_some h
  refine gv_cSi 3 S (As := [.int v1, .int (0 : Int32), .int (1 : Int32)]) (rest := []) (c_X11_within l X M v1 (0 : Int32) (1 : Int32) r1 hc2) (va_cwS 3 S.1.2.2.2.2 gX11_keep_X11_within rfl rfl rfl (by decide +kernel) ⟨Nat.le_of_ble_eq_true rfl, Nat.le_of_ble_eq_true rfl⟩) rfl rfl (Nat.le_of_ble_eq_true rfl) dX11_keep_3 ?_
  refine gv_if_ne 6 S 11 h dX11_keep_6 (by decide) (fun h => ?_) (fun h => ?_)
  · refine gv_aload_n 11 S 0 0 dX11_keep_11 rfl rfl ?_
    refine gv_get 12 S (hF_83_battens X) mf_X11_keep_87 dX11_keep_12 ?_
    refine gv_if_ne 15 S 21 h dX11_keep_15 (by decide) (fun h => ?_) (fun h => ?_)
    · refine gv_aload_n 21 S 0 0 dX11_keep_21 rfl rfl ?_
      refine gv_aload_n 22 S 0 0 dX11_keep_22 rfl rfl ?_
      refine gv_get 23 S (hF_83_kept X) mf_X11_keep_47 dX11_keep_23 ?_
      refine gv_bipush 26 S (25 : Int32) dX11_keep_26 (by decide) ?_
      refine gv_iload_n 28 S 1 1 dX11_keep_28 rfl rfl ?_
      refine gv_imul 29 S dX11_keep_29 ?_
      obtain ⟨M4, hc5, h⟩ := br_some h
      refine gv_cVv 30 S (As := [.ref (X.2.2 96), .int ((25 : Int32) * v1)]) (rest := []) (c_X11_write l X M 96 50 ((25 : Int32) * v1) (hI_96 X) M4 hc5) (hO_83 X) rfl (cwV 2 S.1.2.2.2.2 gX11_keep_X11_write rfl rfl rfl (by decide +kernel) ⟨Nat.le_of_ble_eq_true rfl, Nat.le_of_ble_eq_true rfl⟩) rfl rfl (Nat.le_of_ble_eq_true rfl) dX11_keep_30 ?_
      refine gv_aload_n 33 S 0 0 dX11_keep_33 rfl rfl ?_
      refine gv_get 34 S (hF_83_keptHands X) mf_X11_keep_50 dX11_keep_34 ?_
      refine gv_iload_n 37 S 1 1 dX11_keep_37 rfl rfl ?_
      refine gv_aload_n 38 S 0 0 dX11_keep_38 rfl rfl ?_
      refine gv_get 39 S (hF_83_hands X) mf_X11_keep_117 dX11_keep_39 ?_
      refine gv_iast 42 S h (hI_97 X) dX11_keep_42 (fun M6 h => ?_)
      refine gv_aload_n 43 S 0 0 dX11_keep_43 rfl rfl ?_
      refine gv_get 44 S (hF_83_keptTrim X) mf_X11_keep_53 dX11_keep_44 ?_
      refine gv_iload_n 47 S 1 1 dX11_keep_47 rfl rfl ?_
      refine gv_aload_n 48 S 0 0 dX11_keep_48 rfl rfl ?_
      refine gv_get 49 S (hF_83_trimNow X) mf_X11_keep_123 dX11_keep_49 ?_
      refine gv_iast 52 S h (hI_98 X) dX11_keep_52 (fun M7 h => ?_)
      refine gv_aload_n 53 S 0 0 dX11_keep_53 rfl rfl ?_
      refine gv_get 54 S (hF_83_isKept X) mf_X11_keep_43 dX11_keep_54 ?_
      refine gv_iload_n 57 S 1 1 dX11_keep_57 rfl rfl ?_
      refine gv_iconst 58 S (1 : Int32) dX11_keep_58 (by decide) ?_
      refine gv_zast 59 S h (by decide) (hZ_95 X) dX11_keep_59 (fun M8 h => ?_)
      refine gv_aload_n 60 S 0 0 dX11_keep_60 rfl rfl ?_
      refine gv_get 61 S (hF_83_isKept X) mf_X11_keep_43 dX11_keep_61 ?_
      refine gv_iconst 64 S (0 : Int32) dX11_keep_64 (by decide) ?_
      refine gv_zald 65 S h (hZ_95 X) dX11_keep_65 (fun h => ?_)
      refine gv_if_eq 66 S 82 h dX11_keep_66 (by decide) (fun h => ?_) (fun h => ?_)
      · refine gv_iconst 82 S (1 : Int32) dX11_keep_82 (by decide) ?_
        exact gv_iret 83 S h dX11_keep_83
      · refine gv_aload_n 69 S 0 0 dX11_keep_69 rfl rfl ?_
        refine gv_get 70 S (hF_83_isKept X) mf_X11_keep_43 dX11_keep_70 ?_
        refine gv_iconst 73 S (1 : Int32) dX11_keep_73 (by decide) ?_
        refine gv_zald 74 S h (hZ_95 X) dX11_keep_74 (fun h => ?_)
        refine gv_if_eq 75 S 82 h dX11_keep_75 (by decide) (fun h => ?_) (fun h => ?_)
        · refine gv_iconst 82 S (1 : Int32) dX11_keep_82 (by decide) ?_
          exact gv_iret 83 S h dX11_keep_83
        · refine gv_iconst 78 S (2 : Int32) dX11_keep_78 (by decide) ?_
          refine gv_goto 79 S 83 dX11_keep_79 (by decide) ?_
          exact gv_iret 83 S h dX11_keep_83
    · refine gv_bipush 18 S (-3 : Int32) dX11_keep_18 (by decide) ?_
      exact gv_iret 20 S h dX11_keep_20
  · refine gv_iconst 9 S (-1 : Int32) dX11_keep_9 (by decide) ?_
    exact gv_iret 10 S h dX11_keep_10
theorem mi_X11_restore_11 : ∀ w ∈ u_ws RX11 TX11 39, w ∈ wsX11_restore := by decide +kernel
theorem mf_X11_restore_43 : MF wsX11_restore RX11 43 10 23 := ⟨RX11, TX11, 39, rfl, by decide, mi_X11_restore_11, by decide +kernel⟩
theorem mf_X11_restore_47 : MF wsX11_restore RX11 47 10 24 := ⟨RX11, TX11, 39, rfl, by decide, mi_X11_restore_11, by decide +kernel⟩
theorem mf_X11_restore_50 : MF wsX11_restore RX11 50 10 25 := ⟨RX11, TX11, 39, rfl, by decide, mi_X11_restore_11, by decide +kernel⟩
theorem mp_X11_restore_117 : MP wsX11_restore RX11 117 10 6 .int := ⟨RX11, TX11, 39, tyX11, rfl, by decide, mi_X11_restore_11, by decide +kernel, tyX11_ok, nmX11, rfl, by decide +kernel⟩
theorem mf_X11_restore_53 : MF wsX11_restore RX11 53 10 26 := ⟨RX11, TX11, 39, rfl, by decide, mi_X11_restore_11, by decide +kernel⟩
theorem mp_X11_restore_123 : MP wsX11_restore RX11 123 10 7 .int := ⟨RX11, TX11, 39, tyX11, rfl, by decide, mi_X11_restore_11, by decide +kernel, tyX11_ok, nmX11, rfl, by decide +kernel⟩
theorem mp_X11_restore_135 : MP wsX11_restore RX11 135 10 21 .int := ⟨RX11, TX11, 39, tyX11, rfl, by decide, mi_X11_restore_11, by decide +kernel, tyX11_ok, nmX11, rfl, by decide +kernel⟩
theorem mf_X11_restore_129 : MF wsX11_restore RX11 129 10 8 := ⟨RX11, TX11, 39, rfl, by decide, mi_X11_restore_11, by decide +kernel⟩
abbrev rm_X11_restore : Room := { frames := 1, cells := 0, slots := 0, locals := 23 }
set_option maxHeartbeats 4000000 in
set_option maxRecDepth 100000 in
theorem c_X11_restore (l : Launch) (X : GE) (M : MM) (v1 : Int32) (r : Int32) (M' : MM) (h : f_X11_restore M v1 = some (r, M')) : CTi l yX11_restore wsX11_restore rm_X11_restore X [.ref (X.2.2 83), .int v1] M r M' := by
  refine ct_i (own := RX11) (by decide +kernel) rfl rfl (Nat.le_of_ble_eq_true rfl) (lv0 := [(0, .ref (X.2.2 83)), (1, .int v1)]) rfl ?_
  intro p e s m args below meth c S
  unfold f_X11_restore at h
  refine gv_iload_n 0 S 1 1 dX11_restore_0 rfl rfl ?_
  refine gv_iconst 1 S (0 : Int32) dX11_restore_1 (by decide) ?_
  refine gv_iconst 2 S (1 : Int32) dX11_restore_2 (by decide) ?_
  obtain ⟨r1, hc2, h⟩ := br_some h
  refine gv_cSi 3 S (As := [.int v1, .int (0 : Int32), .int (1 : Int32)]) (rest := []) (c_X11_within l X M v1 (0 : Int32) (1 : Int32) r1 hc2) (va_cwS 3 S.1.2.2.2.2 gX11_restore_X11_within rfl rfl rfl (by decide +kernel) ⟨Nat.le_of_ble_eq_true rfl, Nat.le_of_ble_eq_true rfl⟩) rfl rfl (Nat.le_of_ble_eq_true rfl) dX11_restore_3 ?_
  refine gv_if_ne 6 S 11 h dX11_restore_6 (by decide) (fun h => ?_) (fun h => ?_)
  · refine gv_aload_n 11 S 0 0 dX11_restore_11 rfl rfl ?_
    refine gv_get 12 S (hF_83_isKept X) mf_X11_restore_43 dX11_restore_12 ?_
    refine gv_iload_n 15 S 1 1 dX11_restore_15 rfl rfl ?_
    refine gv_zald 16 S h (hZ_95 X) dX11_restore_16 (fun h => ?_)
    refine gv_if_ne 17 S 23 h dX11_restore_17 (by decide) (fun h => ?_) (fun h => ?_)
    · refine gv_aload_n 23 S 0 0 dX11_restore_23 rfl rfl ?_
      refine gv_aload_n 24 S 0 0 dX11_restore_24 rfl rfl ?_
      refine gv_get 25 S (hF_83_kept X) mf_X11_restore_47 dX11_restore_25 ?_
      refine gv_bipush 28 S (25 : Int32) dX11_restore_28 (by decide) ?_
      refine gv_iload_n 30 S 1 1 dX11_restore_30 rfl rfl ?_
      refine gv_imul 31 S dX11_restore_31 ?_
      obtain ⟨M4, hc5, h⟩ := br_some h
      refine gv_cVv 32 S (As := [.ref (X.2.2 96), .int ((25 : Int32) * v1)]) (rest := []) (c_X11_readBack l X M 96 50 ((25 : Int32) * v1) (hI_96 X) M4 hc5) (hO_83 X) rfl (cwV 2 S.1.2.2.2.2 gX11_restore_X11_readBack rfl rfl rfl (by decide +kernel) ⟨Nat.le_of_ble_eq_true rfl, Nat.le_of_ble_eq_true rfl⟩) rfl rfl (Nat.le_of_ble_eq_true rfl) dX11_restore_32 ?_
      refine gv_aload_n 35 S 0 0 dX11_restore_35 rfl rfl ?_
      refine gv_aload_n 36 S 0 0 dX11_restore_36 rfl rfl ?_
      refine gv_get 37 S (hF_83_keptHands X) mf_X11_restore_50 dX11_restore_37 ?_
      refine gv_iload_n 40 S 1 1 dX11_restore_40 rfl rfl ?_
      refine gv_iald 41 S h (hI_97 X) dX11_restore_41 (fun h => ?_)
      refine gv_put 42 S h (hP_83_hands X) mp_X11_restore_117 rfl rfl dX11_restore_42 (fun M6 h => ?_)
      refine gv_aload_n 45 S 0 0 dX11_restore_45 rfl rfl ?_
      refine gv_aload_n 46 S 0 0 dX11_restore_46 rfl rfl ?_
      refine gv_get 47 S (hF_83_keptTrim X) mf_X11_restore_53 dX11_restore_47 ?_
      refine gv_iload_n 50 S 1 1 dX11_restore_50 rfl rfl ?_
      refine gv_iald 51 S h (hI_98 X) dX11_restore_51 (fun h => ?_)
      refine gv_put 52 S h (hP_83_trimNow X) mp_X11_restore_123 rfl rfl dX11_restore_52 (fun M7 h => ?_)
      refine gv_aload_n 55 S 0 0 dX11_restore_55 rfl rfl ?_
      refine gv_iconst 56 S (0 : Int32) dX11_restore_56 (by decide) ?_
      refine gv_put 57 S h (hP_83_known X) mp_X11_restore_135 rfl rfl dX11_restore_57 (fun M8 h => ?_)
      refine gv_aload_n 60 S 0 0 dX11_restore_60 rfl rfl ?_
      refine gv_get 61 S (hF_83_stock X) mf_X11_restore_129 dX11_restore_61 ?_
      exact gv_iret 64 S h dX11_restore_64
    · refine gv_bipush 20 S (-3 : Int32) dX11_restore_20 (by decide) ?_
      exact gv_iret 22 S h dX11_restore_22
  · refine gv_iconst 9 S (-1 : Int32) dX11_restore_9 (by decide) ?_
    exact gv_iret 10 S h dX11_restore_10
theorem mi_X11_keepHeights_11 : ∀ w ∈ u_ws RX11 TX11 39, w ∈ wsX11_keepHeights := by decide +kernel
theorem mf_X11_keepHeights_56 : MF wsX11_keepHeights RX11 56 10 27 := ⟨RX11, TX11, 39, rfl, by decide, mi_X11_keepHeights_11, by decide +kernel⟩
theorem mf_X11_keepHeights_28 : MF wsX11_keepHeights RX11 28 10 12 := ⟨RX11, TX11, 39, rfl, by decide, mi_X11_keepHeights_11, by decide +kernel⟩
abbrev rm_X11_keepHeights : Room := { frames := 0, cells := 0, slots := 0, locals := 0 }
set_option maxHeartbeats 4000000 in
set_option maxRecDepth 100000 in
theorem t_X11_keepHeights_2 {p : Program} {l : Launch} {e : Env} {s : State} {m : MethodId} {args : Array Value} {below : List Frame} {meth : Method} {c : Code} {X : GE} {M' : MM} (S : CX p s m args meth c cX11_keepHeights 2 wsX11_keepHeights RX11 none X) : ∀ (n : Nat) (M : MM) (v1 : Int32) (h : g_X11_keepHeights_2 n M v1 = some M'), V p l e (headSpec wsX11_keepHeights rm_X11_keepHeights).room s m args below meth c 2 X (MQ below (gQv X M') args s 0 0 (gA X)) M 2 [(0, .ref (X.2.2 83)), (1, .int v1)] [] := by
  intro n
  induction n with
  | zero =>
    intro M v1 h
    rw [g_X11_keepHeights_2] at h
    cases h
  | succ n ih =>
    intro M v1 h
    rw [g_X11_keepHeights_2] at h
    refine gv_iload_n 2 S 1 1 dX11_keepHeights_2 rfl rfl ?_
    refine gv_bipush 3 S (8 : Int32) dX11_keepHeights_3 (by decide) ?_
    refine gv_icmp_ge 5 S 26 h dX11_keepHeights_5 (by decide) (fun h => ?_) (fun h => ?_)
    · exact gv_vret 26 S h dX11_keepHeights_26
    · refine gv_aload_n 8 S 0 0 dX11_keepHeights_8 rfl rfl ?_
      refine gv_get 9 S (hF_83_heightWas X) mf_X11_keepHeights_56 dX11_keepHeights_9 ?_
      refine gv_iload_n 12 S 1 1 dX11_keepHeights_12 rfl rfl ?_
      refine gv_aload_n 13 S 0 0 dX11_keepHeights_13 rfl rfl ?_
      refine gv_get 14 S (hF_83_height X) mf_X11_keepHeights_28 dX11_keepHeights_14 ?_
      refine gv_iload_n 17 S 1 1 dX11_keepHeights_17 rfl rfl ?_
      refine gv_iald 18 S h (hI_90 X) dX11_keepHeights_18 (fun h => ?_)
      refine gv_iast 19 S h (hI_99 X) dX11_keepHeights_19 (fun M1 h => ?_)
      refine gv_iinc 20 S 1 (v1 + (1 : Int32)) (lv' := [(1, .int (v1 + (1 : Int32))), (0, .ref (X.2.2 83))]) dX11_keepHeights_20 rfl rfl (Nat.le_of_ble_eq_true rfl) rfl ?_
      refine gv_goto 23 S 2 dX11_keepHeights_23 (by decide) ?_
      exact gv_sub [1, 0] rfl (ih M1 (v1 + (1 : Int32)) h)
set_option maxHeartbeats 4000000 in
set_option maxRecDepth 100000 in
theorem c_X11_keepHeights (l : Launch) (X : GE) (M : MM) (M' : MM) (h : f_X11_keepHeights M = some M') : CTv l yX11_keepHeights wsX11_keepHeights rm_X11_keepHeights X [.ref (X.2.2 83)] M M' := by
  refine ct_v (own := RX11) (by decide +kernel) rfl rfl (Nat.le_of_ble_eq_true rfl) (lv0 := [(0, .ref (X.2.2 83))]) rfl ?_
  intro p e s m args below meth c S
  unfold f_X11_keepHeights at h
  refine gv_iconst 0 S (0 : Int32) dX11_keepHeights_0 (by decide) ?_
  refine gv_istore_n 1 S 1 (lv' := [(1, .int (0 : Int32)), (0, .ref (X.2.2 83))]) dX11_keepHeights_1 rfl (Nat.le_of_ble_eq_true rfl) rfl ?_
  exact gv_sub [1, 0] rfl (t_X11_keepHeights_2 S FU M (0 : Int32) h)
