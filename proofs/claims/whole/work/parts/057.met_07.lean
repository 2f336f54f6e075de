theorem mi_X11_putHeights_11 : ∀ w ∈ u_ws RX11 TX11 39, w ∈ wsX11_putHeights := by decide +kernel
theorem mf_X11_putHeights_28 : MF wsX11_putHeights RX11 28 10 12 := ⟨RX11, TX11, 39, rfl, by decide, mi_X11_putHeights_11, by decide +kernel⟩
theorem mf_X11_putHeights_56 : MF wsX11_putHeights RX11 56 10 27 := ⟨RX11, TX11, 39, rfl, by decide, mi_X11_putHeights_11, by decide +kernel⟩
abbrev rm_X11_putHeights : Room := { frames := 0, cells := 0, slots := 0, locals := 0 }
set_option maxHeartbeats 4000000 in
set_option maxRecDepth 100000 in
theorem t_X11_putHeights_2 {p : Program} {l : Launch} {e : Env} {s : State} {m : MethodId} {args : Array Value} {below : List Frame} {meth : Method} {c : Code} {X : GE} {M' : MM} (S : CX p s m args meth c cX11_putHeights 2 wsX11_putHeights RX11 none X) : ∀ (n : Nat) (M : MM) (v1 : Int32) (h : g_X11_putHeights_2 n M v1 = some M'), V p l e (headSpec wsX11_putHeights rm_X11_putHeights).room s m args below meth c 2 X (MQ below (gQv X M') args s 0 0 (gA X)) M 2 [(0, .ref (X.2.2 83)), (1, .int v1)] [] := by
  intro n
  induction n with
  | zero =>
    intro M v1 h
    rw [g_X11_putHeights_2] at h
    cases h
  | succ n ih =>
    intro M v1 h
    rw [g_X11_putHeights_2] at h
    refine gv_iload_n 2 S 1 1 dX11_putHeights_2 rfl rfl ?_
    refine gv_bipush 3 S (8 : Int32) dX11_putHeights_3 (by decide) ?_
    refine gv_icmp_ge 5 S 26 h dX11_putHeights_5 (by decide) (fun h => ?_) (fun h => ?_)
    · exact gv_vret 26 S h dX11_putHeights_26
    · refine gv_aload_n 8 S 0 0 dX11_putHeights_8 rfl rfl ?_
      refine gv_get 9 S (hF_83_height X) mf_X11_putHeights_28 dX11_putHeights_9 ?_
      refine gv_iload_n 12 S 1 1 dX11_putHeights_12 rfl rfl ?_
      refine gv_aload_n 13 S 0 0 dX11_putHeights_13 rfl rfl ?_
      refine gv_get 14 S (hF_83_heightWas X) mf_X11_putHeights_56 dX11_putHeights_14 ?_
      refine gv_iload_n 17 S 1 1 dX11_putHeights_17 rfl rfl ?_
      refine gv_iald 18 S h (hI_99 X) dX11_putHeights_18 (fun h => ?_)
      refine gv_iast 19 S h (hI_90 X) dX11_putHeights_19 (fun M1 h => ?_)
      refine gv_iinc 20 S 1 (v1 + (1 : Int32)) (lv' := [(1, .int (v1 + (1 : Int32))), (0, .ref (X.2.2 83))]) dX11_putHeights_20 rfl rfl (Nat.le_of_ble_eq_true rfl) rfl ?_
      refine gv_goto 23 S 2 dX11_putHeights_23 (by decide) ?_
      exact gv_sub [1, 0] rfl (ih M1 (v1 + (1 : Int32)) h)
set_option maxHeartbeats 4000000 in
set_option maxRecDepth 100000 in
theorem c_X11_putHeights (l : Launch) (X : GE) (M : MM) (M' : MM) (h : f_X11_putHeights M = some M') : CTv l yX11_putHeights wsX11_putHeights rm_X11_putHeights X [.ref (X.2.2 83)] M M' := by
  refine ct_v (own := RX11) (by decide +kernel) rfl rfl (Nat.le_of_ble_eq_true rfl) (lv0 := [(0, .ref (X.2.2 83))]) rfl ?_
  intro p e s m args below meth c S
  unfold f_X11_putHeights at h
  refine gv_iconst 0 S (0 : Int32) dX11_putHeights_0 (by decide) ?_
  refine gv_istore_n 1 S 1 (lv' := [(1, .int (0 : Int32)), (0, .ref (X.2.2 83))]) dX11_putHeights_1 rfl (Nat.le_of_ble_eq_true rfl) rfl ?_
  exact gv_sub [1, 0] rfl (t_X11_putHeights_2 S FU M (0 : Int32) h)
theorem mi_X11_goAct_11 : ∀ w ∈ u_ws RX11 TX11 39, w ∈ wsX11_goAct := by decide +kernel
theorem mp_X11_goAct_210 : MP wsX11_goAct RX11 210 10 28 .int := ⟨RX11, TX11, 39, tyX11, rfl, by decide, mi_X11_goAct_11, by decide +kernel, tyX11_ok, nmX11, rfl, by decide +kernel⟩
theorem mp_X11_goAct_213 : MP wsX11_goAct RX11 213 10 29 .int := ⟨RX11, TX11, 39, tyX11, rfl, by decide, mi_X11_goAct_11, by decide +kernel, tyX11_ok, nmX11, rfl, by decide +kernel⟩
theorem mf_X11_goAct_37 : MF wsX11_goAct RX11 37 10 20 := ⟨RX11, TX11, 39, rfl, by decide, mi_X11_goAct_11, by decide +kernel⟩
theorem mf_X11_goAct_16 : MF wsX11_goAct RX11 16 10 4 := ⟨RX11, TX11, 39, rfl, by decide, mi_X11_goAct_11, by decide +kernel⟩
theorem mf_X11_goAct_210 : MF wsX11_goAct RX11 210 10 28 := ⟨RX11, TX11, 39, rfl, by decide, mi_X11_goAct_11, by decide +kernel⟩
theorem mf_X11_goAct_213 : MF wsX11_goAct RX11 213 10 29 := ⟨RX11, TX11, 39, rfl, by decide, mi_X11_goAct_11, by decide +kernel⟩
abbrev rm_X11_goAct : Room := { frames := 2, cells := 0, slots := 0, locals := 44 }
set_option maxHeartbeats 4000000 in
set_option maxRecDepth 100000 in
theorem t_X11_goAct_12 {p : Program} {l : Launch} {e : Env} {s : State} {m : MethodId} {args : Array Value} {below : List Frame} {meth : Method} {c : Code} {X : GE} {r : Int32} {M' : MM} (S : CX p s m args meth c cX11_goAct 4 wsX11_goAct RX11 (some .int) X) : ∀ (n : Nat) (M : MM) (v1 : Int32) (v2 : Int32) (v3 : Int32) (h : g_X11_goAct_12 n M v1 v2 v3 = some (r, M')), V p l e (headSpec wsX11_goAct rm_X11_goAct).room s m args below meth c 4 X (MQ below (gQi X r M') args s 0 0 (gA X)) M 12 [(0, .ref (X.2.2 83)), (1, .int v1), (2, .int v2), (3, .int v3)] [] := by
  intro n
  induction n with
  | zero =>
    intro M v1 v2 v3 h
    rw [g_X11_goAct_12] at h
    cases h
  | succ n ih =>
    intro M v1 v2 v3 h
    rw [g_X11_goAct_12] at h
    refine gv_iload_n 12 S 3 3 dX11_goAct_12 rfl rfl ?_
    refine gv_iload_n 13 S 2 2 dX11_goAct_13 rfl rfl ?_
    refine gv_icmp_ge 14 S 93 h dX11_goAct_14 (by decide) (fun h => ?_) (fun h => ?_)
    · refine gv_bipush 93 S (-9 : Int32) dX11_goAct_93 (by decide) ?_
      exact gv_iret 95 S h dX11_goAct_95
    · refine gv_aload_n 17 S 0 0 dX11_goAct_17 rfl rfl ?_
      obtain ⟨M4, hc5, h⟩ := br_some h
      refine gv_cVv 18 S (As := []) (rest := []) (c_X11_goalsAsNow l X M M4 hc5) (hO_83 X) rfl (cwV 0 S.1.2.2.2.2 gX11_goAct_X11_goalsAsNow rfl rfl rfl (by decide +kernel) ⟨Nat.le_of_ble_eq_true rfl, Nat.le_of_ble_eq_true rfl⟩) rfl rfl (Nat.le_of_ble_eq_true rfl) dX11_goAct_18 ?_
      refine gv_aload_n 21 S 0 0 dX11_goAct_21 rfl rfl ?_
      refine gv_get 22 S (hF_83_goal X) mf_X11_goAct_37 dX11_goAct_22 ?_
      refine gv_aload_n 25 S 0 0 dX11_goAct_25 rfl rfl ?_
      refine gv_get 26 S (hF_83_cells X) mf_X11_goAct_16 dX11_goAct_26 ?_
      refine gv_iload_n 29 S 1 1 dX11_goAct_29 rfl rfl ?_
      refine gv_iconst 30 S (2 : Int32) dX11_goAct_30 (by decide) ?_
      refine gv_iload_n 31 S 3 3 dX11_goAct_31 rfl rfl ?_
      refine gv_imul 32 S dX11_goAct_32 ?_
      refine gv_iadd 33 S dX11_goAct_33 ?_
      refine gv_iald 34 S h (hI_86 X) dX11_goAct_34 (fun h => ?_)
      refine gv_aload_n 35 S 0 0 dX11_goAct_35 rfl rfl ?_
      refine gv_get 36 S (hF_83_cells X) mf_X11_goAct_16 dX11_goAct_36 ?_
      refine gv_iload_n 39 S 1 1 dX11_goAct_39 rfl rfl ?_
      refine gv_iconst 40 S (2 : Int32) dX11_goAct_40 (by decide) ?_
      refine gv_iload_n 41 S 3 3 dX11_goAct_41 rfl rfl ?_
      refine gv_imul 42 S dX11_goAct_42 ?_
      refine gv_iadd 43 S dX11_goAct_43 ?_
      refine gv_iconst 44 S (1 : Int32) dX11_goAct_44 (by decide) ?_
      refine gv_iadd 45 S dX11_goAct_45 ?_
      refine gv_iald 46 S h (hI_86 X) dX11_goAct_46 (fun h => ?_)
      refine gv_iast 47 S h (hI_93 X) dX11_goAct_47 (fun M6 h => ?_)
      refine gv_aload_n 48 S 0 0 dX11_goAct_48 rfl rfl ?_
      obtain ⟨r7, hc8, h⟩ := br_some h
      refine gv_cVi 49 S (As := []) (rest := []) (c_X11_canBe l X M6 r7 hc8) (hO_83 X) rfl (cwV 0 S.1.2.2.2.2 gX11_goAct_X11_canBe rfl rfl rfl (by decide +kernel) ⟨Nat.le_of_ble_eq_true rfl, Nat.le_of_ble_eq_true rfl⟩) rfl rfl (Nat.le_of_ble_eq_true rfl) dX11_goAct_49 ?_
      refine gv_if_ne 52 S 57 h dX11_goAct_52 (by decide) (fun h => ?_) (fun h => ?_)
      · refine gv_aload_n 57 S 0 0 dX11_goAct_57 rfl rfl ?_
        refine gv_dup 58 S dX11_goAct_58 rfl ?_
        refine gv_get 59 S (hF_83_allBeats X) mf_X11_goAct_210 dX11_goAct_59 ?_
        refine gv_aload_n 62 S 0 0 dX11_goAct_62 rfl rfl ?_
        obtain ⟨r9, hc10, h⟩ := br_some h
        refine gv_cVi 63 S (As := []) (rest := [.int (M6 83 28), .ref (X.2.2 83)]) (c_X11_beats l X M6 r9 hc10) (hO_83 X) rfl (cwV 0 S.1.2.2.2.2 gX11_goAct_X11_beats rfl rfl rfl (by decide +kernel) ⟨Nat.le_of_ble_eq_true rfl, Nat.le_of_ble_eq_true rfl⟩) rfl rfl (Nat.le_of_ble_eq_true rfl) dX11_goAct_63 ?_
        refine gv_iadd 66 S dX11_goAct_66 ?_
        refine gv_put 67 S h (hP_83_allBeats X) mp_X11_goAct_210 rfl rfl dX11_goAct_67 (fun M11 h => ?_)
        refine gv_aload_n 70 S 0 0 dX11_goAct_70 rfl rfl ?_
        refine gv_dup 71 S dX11_goAct_71 rfl ?_
        refine gv_get 72 S (hF_83_allEffort X) mf_X11_goAct_213 dX11_goAct_72 ?_
        refine gv_aload_n 75 S 0 0 dX11_goAct_75 rfl rfl ?_
        obtain ⟨r12, hc13, h⟩ := br_some h
        refine gv_cVi 76 S (As := []) (rest := [.int (M11 83 29), .ref (X.2.2 83)]) (c_X11_effort l X M11 r12 hc13) (hO_83 X) rfl (cwV 0 S.1.2.2.2.2 gX11_goAct_X11_effort rfl rfl rfl (by decide +kernel) ⟨Nat.le_of_ble_eq_true rfl, Nat.le_of_ble_eq_true rfl⟩) rfl rfl (Nat.le_of_ble_eq_true rfl) dX11_goAct_76 ?_
        refine gv_iadd 79 S dX11_goAct_79 ?_
        refine gv_put 80 S h (hP_83_allEffort X) mp_X11_goAct_213 rfl rfl dX11_goAct_80 (fun M14 h => ?_)
        refine gv_aload_n 83 S 0 0 dX11_goAct_83 rfl rfl ?_
        obtain ⟨M16, hc17, h⟩ := br_some h
        refine gv_cVv 84 S (As := []) (rest := []) (c_X11_goes l X M14 M16 hc17) (hO_83 X) rfl (cwV 0 S.1.2.2.2.2 gX11_goAct_X11_goes rfl rfl rfl (by decide +kernel) ⟨Nat.le_of_ble_eq_true rfl, Nat.le_of_ble_eq_true rfl⟩) rfl rfl (Nat.le_of_ble_eq_true rfl) dX11_goAct_84 ?_
        refine gv_iinc 87 S 3 (v3 + (1 : Int32)) (lv' := [(3, .int (v3 + (1 : Int32))), (0, .ref (X.2.2 83)), (1, .int v1), (2, .int v2)]) dX11_goAct_87 rfl rfl (Nat.le_of_ble_eq_true rfl) rfl ?_
        refine gv_goto 90 S 12 dX11_goAct_90 (by decide) ?_
        exact gv_sub [1, 2, 3, 0] rfl (ih M16 v1 v2 (v3 + (1 : Int32)) h)
      · refine gv_iload_n 55 S 3 3 dX11_goAct_55 rfl rfl ?_
        exact gv_iret 56 S h dX11_goAct_56
set_option maxHeartbeats 4000000 in
set_option maxRecDepth 100000 in
theorem c_X11_goAct (l : Launch) (X : GE) (M : MM) (v1 : Int32) (v2 : Int32) (r : Int32) (M' : MM) (h : f_X11_goAct M v1 v2 = some (r, M')) : CTi l yX11_goAct wsX11_goAct rm_X11_goAct X [.ref (X.2.2 83), .int v1, .int v2] M r M' := by
  refine ct_i (own := RX11) (by decide +kernel) rfl rfl (Nat.le_of_ble_eq_true rfl) (lv0 := [(0, .ref (X.2.2 83)), (1, .int v1), (2, .int v2)]) rfl ?_
  intro p e s m args below meth c S
  unfold f_X11_goAct at h
  refine gv_aload_n 0 S 0 0 dX11_goAct_0 rfl rfl ?_
  refine gv_iconst 1 S (0 : Int32) dX11_goAct_1 (by decide) ?_
  refine gv_put 2 S h (hP_83_allBeats X) mp_X11_goAct_210 rfl rfl dX11_goAct_2 (fun M1 h => ?_)
  refine gv_aload_n 5 S 0 0 dX11_goAct_5 rfl rfl ?_
  refine gv_iconst 6 S (0 : Int32) dX11_goAct_6 (by decide) ?_
  refine gv_put 7 S h (hP_83_allEffort X) mp_X11_goAct_213 rfl rfl dX11_goAct_7 (fun M2 h => ?_)
  refine gv_iconst 10 S (0 : Int32) dX11_goAct_10 (by decide) ?_
  refine gv_istore_n 11 S 3 (lv' := [(3, .int (0 : Int32)), (0, .ref (X.2.2 83)), (1, .int v1), (2, .int v2)]) dX11_goAct_11 rfl (Nat.le_of_ble_eq_true rfl) rfl ?_
  exact gv_sub [1, 2, 3, 0] rfl (t_X11_goAct_12 S FU M2 v1 v2 (0 : Int32) h)
theorem mi_X11_tellAct_11 : ∀ w ∈ u_ws RX11 TX11 39, w ∈ wsX11_tellAct := by decide +kernel
theorem mf_X11_tellAct_213 : MF wsX11_tellAct RX11 213 10 29 := ⟨RX11, TX11, 39, rfl, by decide, mi_X11_tellAct_11, by decide +kernel⟩
theorem mf_X11_tellAct_210 : MF wsX11_tellAct RX11 210 10 28 := ⟨RX11, TX11, 39, rfl, by decide, mi_X11_tellAct_11, by decide +kernel⟩
theorem mf_X11_tellAct_28 : MF wsX11_tellAct RX11 28 10 12 := ⟨RX11, TX11, 39, rfl, by decide, mi_X11_tellAct_11, by decide +kernel⟩
abbrev rm_X11_tellAct : Room := { frames := 2, cells := 0, slots := 0, locals := 44 }
set_option maxHeartbeats 4000000 in
set_option maxRecDepth 100000 in
theorem c_X11_tellAct (l : Launch) (X : GE) (M : MM) (v1 : Int32) (r : Int32) (h : f_X11_tellAct M v1 = some r) : CTi l yX11_tellAct wsX11_tellAct rm_X11_tellAct X [.ref (X.2.2 83), .int v1] M r M := by
  refine ct_i (own := RX11) (by decide +kernel) rfl rfl (Nat.le_of_ble_eq_true rfl) (lv0 := [(0, .ref (X.2.2 83)), (1, .int v1)]) rfl ?_
  intro p e s m args below meth c S
  unfold f_X11_tellAct at h
  refine gv_iload_n 0 S 1 1 dX11_tellAct_0 rfl rfl ?_
  refine gv_bipush 1 S (10 : Int32) dX11_tellAct_1 (by decide) ?_
  refine gv_icmp_lt 3 S 32 h dX11_tellAct_3 (by decide) (fun h => ?_) (fun h => ?_)
  · refine gv_iload_n 32 S 1 1 dX11_tellAct_32 rfl rfl ?_
    refine gv_if_ne 33 S 43 h dX11_tellAct_33 (by decide) (fun h => ?_) (fun h => ?_)
    · refine gv_iload_n 43 S 1 1 dX11_tellAct_43 rfl rfl ?_
      refine gv_iconst 44 S (2 : Int32) dX11_tellAct_44 (by decide) ?_
      refine gv_icmp_ne 45 S 55 h dX11_tellAct_45 (by decide) (fun h => ?_) (fun h => ?_)
      · refine gv_aload_n 55 S 0 0 dX11_tellAct_55 rfl rfl ?_
        obtain ⟨r1, hc2, h⟩ := br_some h
        refine gv_cVi 56 S (As := []) (rest := []) (c_X11_seenNow l X M r1 hc2) (hO_83 X) rfl (cwV 0 S.1.2.2.2.2 gX11_tellAct_X11_seenNow rfl rfl rfl (by decide +kernel) ⟨Nat.le_of_ble_eq_true rfl, Nat.le_of_ble_eq_true rfl⟩) rfl rfl (Nat.le_of_ble_eq_true rfl) dX11_tellAct_56 ?_
        exact gv_iretR 59 S h dX11_tellAct_59
      · refine gv_aload_n 48 S 0 0 dX11_tellAct_48 rfl rfl ?_
        refine gv_get 49 S (hF_83_allEffort X) mf_X11_tellAct_213 dX11_tellAct_49 ?_
        refine gv_goto 52 S 59 dX11_tellAct_52 (by decide) ?_
        exact gv_iretR 59 S h dX11_tellAct_59
    · refine gv_aload_n 36 S 0 0 dX11_tellAct_36 rfl rfl ?_
      refine gv_get 37 S (hF_83_allBeats X) mf_X11_tellAct_210 dX11_tellAct_37 ?_
      refine gv_goto 40 S 59 dX11_tellAct_40 (by decide) ?_
      exact gv_iretR 59 S h dX11_tellAct_59
  · refine gv_aload_n 6 S 0 0 dX11_tellAct_6 rfl rfl ?_
    refine gv_iload_n 7 S 1 1 dX11_tellAct_7 rfl rfl ?_
    refine gv_bipush 8 S (10 : Int32) dX11_tellAct_8 (by decide) ?_
    refine gv_isub 10 S dX11_tellAct_10 ?_
    obtain ⟨r3, hc4, h⟩ := br_some h
    refine gv_cVi 11 S (As := [.int (v1 - (10 : Int32))]) (rest := []) (c_X11_isBatten l X M (v1 - (10 : Int32)) r3 hc4) (hO_83 X) rfl (cwV 1 S.1.2.2.2.2 gX11_tellAct_X11_isBatten rfl rfl rfl (by decide +kernel) ⟨Nat.le_of_ble_eq_true rfl, Nat.le_of_ble_eq_true rfl⟩) rfl rfl (Nat.le_of_ble_eq_true rfl) dX11_tellAct_11 ?_
    refine gv_if_eq 14 S 29 h dX11_tellAct_14 (by decide) (fun h => ?_) (fun h => ?_)
    · refine gv_bipush 29 S (-9 : Int32) dX11_tellAct_29 (by decide) ?_
      exact gv_iretR 31 S h dX11_tellAct_31
    · refine gv_aload_n 17 S 0 0 dX11_tellAct_17 rfl rfl ?_
      refine gv_get 18 S (hF_83_height X) mf_X11_tellAct_28 dX11_tellAct_18 ?_
      refine gv_iload_n 21 S 1 1 dX11_tellAct_21 rfl rfl ?_
      refine gv_bipush 22 S (10 : Int32) dX11_tellAct_22 (by decide) ?_
      refine gv_isub 24 S dX11_tellAct_24 ?_
      refine gv_iald 25 S h (hI_90 X) dX11_tellAct_25 (fun h => ?_)
      refine gv_goto 26 S 31 dX11_tellAct_26 (by decide) ?_
      exact gv_iretR 31 S h dX11_tellAct_31
theorem mi_X11_act_11 : ∀ w ∈ u_ws RX11 TX11 39, w ∈ wsX11_act := by decide +kernel
theorem mp_X11_act_77 : MP wsX11_act RX11 77 10 0 .int := ⟨RX11, TX11, 39, tyX11, rfl, by decide, mi_X11_act_11, by decide +kernel, tyX11_ok, nmX11, rfl, by decide +kernel⟩
theorem mf_X11_act_87 : MF wsX11_act RX11 87 10 5 := ⟨RX11, TX11, 39, rfl, by decide, mi_X11_act_11, by decide +kernel⟩
abbrev rm_X11_act : Room := { frames := 3, cells := 0, slots := 0, locals := 67 }
set_option maxHeartbeats 4000000 in
set_option maxRecDepth 100000 in
theorem t_X11_act_57 {p : Program} {l : Launch} {e : Env} {s : State} {m : MethodId} {args : Array Value} {below : List Frame} {meth : Method} {c : Code} {X : GE} {r : Int32} {M' : MM} (S : CX p s m args meth c cX11_act 11 wsX11_act RX11 (some .int) X) (M : MM) (v1 : Int32) (v2 : Int32) (v3 : Int32) (v4 : Int32) (v5 : Int32) (h : g_X11_act_57 M v1 v2 v3 v4 v5 = some (r, M')) : V p l e (headSpec wsX11_act rm_X11_act).room s m args below meth c 11 X (MQ below (gQi X r M') args s 0 0 (gA X)) M 57 [(0, .ref (X.2.2 83)), (1, .int v1), (2, .int v2), (3, .int v3), (4, .int v4), (5, .int v5)] [] := by
  unfold g_X11_act_57 at h
  refine gv_aload_n 57 S 0 0 dX11_act_57 rfl rfl ?_
  refine gv_iload_n 58 S 1 1 dX11_act_58 rfl rfl ?_
  refine gv_iload_n 59 S 2 2 dX11_act_59 rfl rfl ?_
  refine gv_iload_n 60 S 3 3 dX11_act_60 rfl rfl ?_
  refine gv_iconst 61 S (2 : Int32) dX11_act_61 (by decide) ?_
  refine gv_iload 62 S 4 dX11_act_62 rfl ?_
  refine gv_imul 64 S dX11_act_64 ?_
  obtain ⟨r12, hc13, h⟩ := br_some h
  refine gv_cVi 65 S (As := [.int v1, .int v2, .int v3, .int ((2 : Int32) * v4)]) (rest := []) (c_X11_against l X M v1 v2 v3 ((2 : Int32) * v4) r12 hc13) (hO_83 X) rfl (cwV 4 S.1.2.2.2.2 gX11_act_X11_against rfl rfl rfl (by decide +kernel) ⟨Nat.le_of_ble_eq_true rfl, Nat.le_of_ble_eq_true rfl⟩) rfl rfl (Nat.le_of_ble_eq_true rfl) dX11_act_65 ?_
  refine gv_istore 68 S (lv' := [(6, .int r12), (0, .ref (X.2.2 83)), (1, .int v1), (2, .int v2), (3, .int v3), (4, .int v4), (5, .int v5)]) dX11_act_68 (Nat.le_of_ble_eq_true rfl) rfl ?_
  refine gv_iload 70 S 0 dX11_act_70 rfl ?_
  refine gv_if_eq 72 S 82 h dX11_act_72 (by decide) (fun h => ?_) (fun h => ?_)
  · refine gv_aload_n 82 S 0 1 dX11_act_82 rfl rfl ?_
    refine gv_get 83 S (hF_83_battens X) mf_X11_act_87 dX11_act_83 ?_
    refine gv_if_ne 86 S 92 h dX11_act_86 (by decide) (fun h => ?_) (fun h => ?_)
    · refine gv_bipush 92 S (60 : Int32) dX11_act_92 (by decide) ?_
      refine gv_iload_n 94 S 1 2 dX11_act_94 rfl rfl ?_
      refine gv_imul 95 S dX11_act_95 ?_
      refine gv_iload_n 96 S 3 4 dX11_act_96 rfl rfl ?_
      refine gv_iadd 97 S dX11_act_97 ?_
      refine gv_nmi h (fun x14 h => ?_)
      refine gv_istore 98 S (lv' := [(7, .int x14), (6, .int r12), (0, .ref (X.2.2 83)), (1, .int v1), (2, .int v2), (3, .int v3), (4, .int v4), (5, .int v5)]) dX11_act_98 (Nat.le_of_ble_eq_true rfl) rfl ?_
      refine gv_aload_n 100 S 0 2 dX11_act_100 rfl rfl ?_
      refine gv_iload 101 S 0 dX11_act_101 rfl ?_
      refine gv_iload 103 S 6 dX11_act_103 rfl ?_
      obtain ⟨r15, hc16, h⟩ := br_some h
      refine gv_cVi 105 S (As := [.int x14, .int v4]) (rest := []) (c_X11_refusesPairs l X M x14 v4 r15 hc16) (hO_83 X) rfl (cwV 2 S.1.2.2.2.2 gX11_act_X11_refusesPairs rfl rfl rfl (by decide +kernel) ⟨Nat.le_of_ble_eq_true rfl, Nat.le_of_ble_eq_true rfl⟩) rfl rfl (Nat.le_of_ble_eq_true rfl) dX11_act_105 ?_
      refine gv_istore 108 S (lv' := [(8, .int r15), (7, .int x14), (6, .int r12), (0, .ref (X.2.2 83)), (1, .int v1), (2, .int v2), (3, .int v3), (4, .int v4), (5, .int v5)]) dX11_act_108 (Nat.le_of_ble_eq_true rfl) rfl ?_
      refine gv_iload 110 S 0 dX11_act_110 rfl ?_
      refine gv_if_eq 112 S 118 h dX11_act_112 (by decide) (fun h => ?_) (fun h => ?_)
      · refine gv_aload_n 118 S 0 3 dX11_act_118 rfl rfl ?_
        obtain ⟨M18, hc19, h⟩ := br_some h
        refine gv_cVv 119 S (As := []) (rest := []) (c_X11_keepHeights l X M M18 hc19) (hO_83 X) rfl (cwV 0 S.1.2.2.2.2 gX11_act_X11_keepHeights rfl rfl rfl (by decide +kernel) ⟨Nat.le_of_ble_eq_true rfl, Nat.le_of_ble_eq_true rfl⟩) rfl rfl (Nat.le_of_ble_eq_true rfl) dX11_act_119 ?_
        refine gv_aload_n 122 S 0 3 dX11_act_122 rfl rfl ?_
        refine gv_iload 123 S 1 dX11_act_123 rfl ?_
        refine gv_iload 125 S 7 dX11_act_125 rfl ?_
        obtain ⟨r20, M21, hc22, h⟩ := bi_some h
        refine gv_cVi 127 S (As := [.int x14, .int v4]) (rest := []) (c_X11_goAct l X M18 x14 v4 r20 M21 hc22) (hO_83 X) rfl (cwV 2 S.1.2.2.2.2 gX11_act_X11_goAct rfl rfl rfl (by decide +kernel) ⟨Nat.le_of_ble_eq_true rfl, Nat.le_of_ble_eq_true rfl⟩) rfl rfl (Nat.le_of_ble_eq_true rfl) dX11_act_127 ?_
        refine gv_istore 130 S (lv' := [(9, .int r20), (8, .int r15), (7, .int x14), (6, .int r12), (0, .ref (X.2.2 83)), (1, .int v1), (2, .int v2), (3, .int v3), (4, .int v4), (5, .int v5)]) dX11_act_130 (Nat.le_of_ble_eq_true rfl) rfl ?_
        refine gv_aload_n 132 S 0 4 dX11_act_132 rfl rfl ?_
        refine gv_iload 133 S 9 dX11_act_133 rfl ?_
        obtain ⟨r23, hc24, h⟩ := br_some h
        refine gv_cVi 135 S (As := [.int v5]) (rest := []) (c_X11_tellAct l X M21 v5 r23 hc24) (hO_83 X) rfl (cwV 1 S.1.2.2.2.2 gX11_act_X11_tellAct rfl rfl rfl (by decide +kernel) ⟨Nat.le_of_ble_eq_true rfl, Nat.le_of_ble_eq_true rfl⟩) rfl rfl (Nat.le_of_ble_eq_true rfl) dX11_act_135 ?_
        refine gv_istore 138 S (lv' := [(10, .int r23), (9, .int r20), (8, .int r15), (7, .int x14), (6, .int r12), (0, .ref (X.2.2 83)), (1, .int v1), (2, .int v2), (3, .int v3), (4, .int v4), (5, .int v5)]) dX11_act_138 (Nat.le_of_ble_eq_true rfl) rfl ?_
        refine gv_aload_n 140 S 0 5 dX11_act_140 rfl rfl ?_
        obtain ⟨M26, hc27, h⟩ := br_some h
        refine gv_cVv 141 S (As := []) (rest := []) (c_X11_putHeights l X M21 M26 hc27) (hO_83 X) rfl (cwV 0 S.1.2.2.2.2 gX11_act_X11_putHeights rfl rfl rfl (by decide +kernel) ⟨Nat.le_of_ble_eq_true rfl, Nat.le_of_ble_eq_true rfl⟩) rfl rfl (Nat.le_of_ble_eq_true rfl) dX11_act_141 ?_
        refine gv_iload 144 S 10 dX11_act_144 rfl ?_
        refine gv_iconst 146 S (1 : Int32) dX11_act_146 (by decide) ?_
        refine gv_icmp_ne 147 S 155 h dX11_act_147 (by decide) (fun h => ?_) (fun h => ?_)
        · refine gv_iload 155 S 1 dX11_act_155 rfl ?_
          refine gv_bipush 157 S (-9 : Int32) dX11_act_157 (by decide) ?_
          refine gv_icmp_ne 159 S 167 h dX11_act_159 (by decide) (fun h => ?_) (fun h => ?_)
          · refine gv_bipush 167 S (-100 : Int32) dX11_act_167 (by decide) ?_
            refine gv_iload 169 S 1 dX11_act_169 rfl ?_
            refine gv_isub 171 S dX11_act_171 ?_
            exact gv_iret 172 S h dX11_act_172
          · refine gv_iload 162 S 0 dX11_act_162 rfl ?_
            refine gv_goto 164 S 172 dX11_act_164 (by decide) ?_
            exact gv_iret 172 S h dX11_act_172
        · refine gv_iload 150 S 1 dX11_act_150 rfl ?_
          refine gv_goto 152 S 172 dX11_act_152 (by decide) ?_
          exact gv_iret 172 S h dX11_act_172
      · refine gv_iload 115 S 0 dX11_act_115 rfl ?_
        exact gv_iret 117 S h dX11_act_117
    · refine gv_bipush 89 S (-3 : Int32) dX11_act_89 (by decide) ?_
      exact gv_iret 91 S h dX11_act_91
  · refine gv_aload_n 75 S 0 1 dX11_act_75 rfl rfl ?_
    refine gv_iload 76 S 0 dX11_act_76 rfl ?_
    obtain ⟨r28, M29, hc30, h⟩ := bi_some h
    refine gv_cVi 78 S (As := [.int r12]) (rest := []) (c_X11_fails l X M r12 r28 M29 hc30) (hO_83 X) rfl (cwV 1 S.1.2.2.2.2 gX11_act_X11_fails rfl rfl rfl (by decide +kernel) ⟨Nat.le_of_ble_eq_true rfl, Nat.le_of_ble_eq_true rfl⟩) rfl rfl (Nat.le_of_ble_eq_true rfl) dX11_act_78 ?_
    exact gv_iret 81 S h dX11_act_81
set_option maxHeartbeats 4000000 in
set_option maxRecDepth 100000 in
theorem c_X11_act (l : Launch) (X : GE) (M : MM) (v1 : Int32) (v2 : Int32) (v3 : Int32) (v4 : Int32) (v5 : Int32) (r : Int32) (M' : MM) (h : f_X11_act M v1 v2 v3 v4 v5 = some (r, M')) : CTi l yX11_act wsX11_act rm_X11_act X [.ref (X.2.2 83), .int v1, .int v2, .int v3, .int v4, .int v5] M r M' := by
  refine ct_i (own := RX11) (by decide +kernel) rfl rfl (Nat.le_of_ble_eq_true rfl) (lv0 := [(0, .ref (X.2.2 83)), (1, .int v1), (2, .int v2), (3, .int v3), (4, .int v4), (5, .int v5)]) rfl ?_
  intro p e s m args below meth c S
  unfold f_X11_act at h
  refine gv_aload_n 0 S 0 0 dX11_act_0 rfl rfl ?_
  refine gv_iconst 1 S (0 : Int32) dX11_act_1 (by decide) ?_
  refine gv_put 2 S h (hP_83_fault X) mp_X11_act_77 rfl rfl dX11_act_2 (fun M1 h => ?_)
  refine gv_iload_n 5 S 1 1 dX11_act_5 rfl rfl ?_
  obtain ⟨r2, hc3, h⟩ := br_some h
  refine gv_cSi 6 S (As := [.int v1]) (rest := []) (c_X11_isSheet l X M1 v1 r2 hc3) (va_cwS 1 S.1.2.2.2.2 gX11_act_X11_isSheet rfl rfl rfl (by decide +kernel) ⟨Nat.le_of_ble_eq_true rfl, Nat.le_of_ble_eq_true rfl⟩) rfl rfl (Nat.le_of_ble_eq_true rfl) dX11_act_6 ?_
  refine gv_if_ne 9 S 14 h dX11_act_9 (by decide) (fun h => ?_) (fun h => ?_)
  · refine gv_iload_n 14 S 2 2 dX11_act_14 rfl rfl ?_
    obtain ⟨r4, hc5, h⟩ := br_some h
    refine gv_cSi 15 S (As := [.int v2]) (rest := []) (c_X11_isSort l X M1 v2 r4 hc5) (va_cwS 1 S.1.2.2.2.2 gX11_act_X11_isSort rfl rfl rfl (by decide +kernel) ⟨Nat.le_of_ble_eq_true rfl, Nat.le_of_ble_eq_true rfl⟩) rfl rfl (Nat.le_of_ble_eq_true rfl) dX11_act_15 ?_
    refine gv_if_eq 18 S 54 h dX11_act_18 (by decide) (fun h => ?_) (fun h => ?_)
    · refine gv_bipush 54 S (-2 : Int32) dX11_act_54 (by decide) ?_
      exact gv_iret 56 S h dX11_act_56
    · refine gv_iload 21 S 4 dX11_act_21 rfl ?_
      refine gv_iconst 23 S (0 : Int32) dX11_act_23 (by decide) ?_
      refine gv_bipush 24 S (20 : Int32) dX11_act_24 (by decide) ?_
      obtain ⟨r6, hc7, h⟩ := br_some h
      refine gv_cSi 26 S (As := [.int v4, .int (0 : Int32), .int (20 : Int32)]) (rest := []) (c_X11_within l X M1 v4 (0 : Int32) (20 : Int32) r6 hc7) (va_cwS 3 S.1.2.2.2.2 gX11_act_X11_within rfl rfl rfl (by decide +kernel) ⟨Nat.le_of_ble_eq_true rfl, Nat.le_of_ble_eq_true rfl⟩) rfl rfl (Nat.le_of_ble_eq_true rfl) dX11_act_26 ?_
      refine gv_if_eq 29 S 54 h dX11_act_29 (by decide) (fun h => ?_) (fun h => ?_)
      · refine gv_bipush 54 S (-2 : Int32) dX11_act_54 (by decide) ?_
        exact gv_iret 56 S h dX11_act_56
      · refine gv_iload 32 S 5 dX11_act_32 rfl ?_
        refine gv_iconst 34 S (0 : Int32) dX11_act_34 (by decide) ?_
        refine gv_iconst 35 S (3 : Int32) dX11_act_35 (by decide) ?_
        obtain ⟨r8, hc9, h⟩ := br_some h
        refine gv_cSi 36 S (As := [.int v5, .int (0 : Int32), .int (3 : Int32)]) (rest := []) (c_X11_within l X M1 v5 (0 : Int32) (3 : Int32) r8 hc9) (va_cwS 3 S.1.2.2.2.2 gX11_act_X11_within rfl rfl rfl (by decide +kernel) ⟨Nat.le_of_ble_eq_true rfl, Nat.le_of_ble_eq_true rfl⟩) rfl rfl (Nat.le_of_ble_eq_true rfl) dX11_act_36 ?_
        refine gv_if_ne 39 S 57 h dX11_act_39 (by decide) (fun h => ?_) (fun h => ?_)
        · exact gv_sub [0, 1, 2, 3, 4, 5] rfl (t_X11_act_57 S M1 v1 v2 v3 v4 v5 h)
        · refine gv_iload 42 S 5 dX11_act_42 rfl ?_
          refine gv_bipush 44 S (10 : Int32) dX11_act_44 (by decide) ?_
          refine gv_bipush 46 S (17 : Int32) dX11_act_46 (by decide) ?_
          obtain ⟨r10, hc11, h⟩ := br_some h
          refine gv_cSi 48 S (As := [.int v5, .int (10 : Int32), .int (17 : Int32)]) (rest := []) (c_X11_within l X M1 v5 (10 : Int32) (17 : Int32) r10 hc11) (va_cwS 3 S.1.2.2.2.2 gX11_act_X11_within rfl rfl rfl (by decide +kernel) ⟨Nat.le_of_ble_eq_true rfl, Nat.le_of_ble_eq_true rfl⟩) rfl rfl (Nat.le_of_ble_eq_true rfl) dX11_act_48 ?_
          refine gv_if_ne 51 S 57 h dX11_act_51 (by decide) (fun h => ?_) (fun h => ?_)
          · exact gv_sub [0, 1, 2, 3, 4, 5] rfl (t_X11_act_57 S M1 v1 v2 v3 v4 v5 h)
          · refine gv_bipush 54 S (-2 : Int32) dX11_act_54 (by decide) ?_
            exact gv_iret 56 S h dX11_act_56
  · refine gv_iconst 12 S (-1 : Int32) dX11_act_12 (by decide) ?_
    exact gv_iret 13 S h dX11_act_13
theorem mi_X11_crew_11 : ∀ w ∈ u_ws RX11 TX11 39, w ∈ wsX11_crew := by decide +kernel
theorem mp_X11_crew_77 : MP wsX11_crew RX11 77 10 0 .int := ⟨RX11, TX11, 39, tyX11, rfl, by decide, mi_X11_crew_11, by decide +kernel, tyX11_ok, nmX11, rfl, by decide +kernel⟩
theorem mf_X11_crew_87 : MF wsX11_crew RX11 87 10 5 := ⟨RX11, TX11, 39, rfl, by decide, mi_X11_crew_11, by decide +kernel⟩
theorem mf_X11_crew_117 : MF wsX11_crew RX11 117 10 6 := ⟨RX11, TX11, 39, rfl, by decide, mi_X11_crew_11, by decide +kernel⟩
theorem mp_X11_crew_117 : MP wsX11_crew RX11 117 10 6 .int := ⟨RX11, TX11, 39, tyX11, rfl, by decide, mi_X11_crew_11, by decide +kernel, tyX11_ok, nmX11, rfl, by decide +kernel⟩
abbrev rm_X11_crew : Room := { frames := 3, cells := 0, slots := 0, locals := 67 }
set_option maxHeartbeats 4000000 in
set_option maxRecDepth 100000 in
theorem t_X11_crew_110 {p : Program} {l : Launch} {e : Env} {s : State} {m : MethodId} {args : Array Value} {below : List Frame} {meth : Method} {c : Code} {X : GE} {r : Int32} {M' : MM} (S : CX p s m args meth c cX11_crew 11 wsX11_crew RX11 (some .int) X) : ∀ (n : Nat) (M : MM) (v4 : Int32) (v6 : Int32) (v8 : Int32) (v9 : Int32) (v10 : Int32) (h : g_X11_crew_110 n M v4 v6 v8 v9 v10 = some (r, M')), V p l e (headSpec wsX11_crew rm_X11_crew).room s m args below meth c 11 X (MQ below (gQi X r M') args s 0 0 (gA X)) M 110 [(0, .ref (X.2.2 83)), (4, .int v4), (6, .int v6), (8, .int v8), (9, .int v9), (10, .int v10)] [] := by
  intro n
  induction n with
  | zero =>
    intro M v4 v6 v8 v9 v10 h
    rw [g_X11_crew_110] at h
    cases h
  | succ n ih =>
    intro M v4 v6 v8 v9 v10 h
    rw [g_X11_crew_110] at h
    refine gv_iload 110 S 5 dX11_crew_110 rfl ?_
    refine gv_if_le 112 S 157 h dX11_crew_112 (by decide) (fun h => ?_) (fun h => ?_)
    · refine gv_aload_n 157 S 0 0 dX11_crew_157 rfl rfl ?_
      refine gv_iload 158 S 3 dX11_crew_158 rfl ?_
      refine gv_put 160 S h (hP_83_hands X) mp_X11_crew_117 rfl rfl dX11_crew_160 (fun M17 h => ?_)
      refine gv_iload 163 S 4 dX11_crew_163 rfl ?_
      exact gv_iret 165 S h dX11_crew_165
    · refine gv_aload_n 115 S 0 0 dX11_crew_115 rfl rfl ?_
      refine gv_iload 116 S 5 dX11_crew_116 rfl ?_
      refine gv_put 118 S h (hP_83_hands X) mp_X11_crew_117 rfl rfl dX11_crew_118 (fun M18 h => ?_)
      refine gv_aload_n 121 S 0 0 dX11_crew_121 rfl rfl ?_
      obtain ⟨M20, hc21, h⟩ := br_some h
      refine gv_cVv 122 S (As := []) (rest := []) (c_X11_keepHeights l X M18 M20 hc21) (hO_83 X) rfl (cwV 0 S.1.2.2.2.2 gX11_crew_X11_keepHeights rfl rfl rfl (by decide +kernel) ⟨Nat.le_of_ble_eq_true rfl, Nat.le_of_ble_eq_true rfl⟩) rfl rfl (Nat.le_of_ble_eq_true rfl) dX11_crew_122 ?_
      refine gv_aload_n 125 S 0 0 dX11_crew_125 rfl rfl ?_
      refine gv_iload 126 S 2 dX11_crew_126 rfl ?_
      refine gv_iload 128 S 1 dX11_crew_128 rfl ?_
      obtain ⟨r22, M23, hc24, h⟩ := bi_some h
      refine gv_cVi 130 S (As := [.int v6, .int v4]) (rest := []) (c_X11_goAct l X M20 v6 v4 r22 M23 hc24) (hO_83 X) rfl (cwV 2 S.1.2.2.2.2 gX11_crew_X11_goAct rfl rfl rfl (by decide +kernel) ⟨Nat.le_of_ble_eq_true rfl, Nat.le_of_ble_eq_true rfl⟩) rfl rfl (Nat.le_of_ble_eq_true rfl) dX11_crew_130 ?_
      refine gv_bipush 133 S (-9 : Int32) dX11_crew_133 (by decide) ?_
      refine gv_icmp_ne 135 S 143 h dX11_crew_135 (by decide) (fun h => ?_) (fun h => ?_)
      · refine gv_iload 143 S 4 dX11_crew_143 rfl ?_
        refine gv_istore 145 S (lv' := [(9, .int v9), (0, .ref (X.2.2 83)), (4, .int v4), (6, .int v6), (8, .int v8), (10, .int v10)]) dX11_crew_145 (Nat.le_of_ble_eq_true rfl) rfl ?_
        refine gv_aload_n 147 S 0 1 dX11_crew_147 rfl rfl ?_
        obtain ⟨M26, hc27, h⟩ := br_some h
        refine gv_cVv 148 S (As := []) (rest := []) (c_X11_putHeights l X M23 M26 hc27) (hO_83 X) rfl (cwV 0 S.1.2.2.2.2 gX11_crew_X11_putHeights rfl rfl rfl (by decide +kernel) ⟨Nat.le_of_ble_eq_true rfl, Nat.le_of_ble_eq_true rfl⟩) rfl rfl (Nat.le_of_ble_eq_true rfl) dX11_crew_148 ?_
        refine gv_iinc 151 S 5 (v10 + (-1 : Int32)) (lv' := [(10, .int (v10 + (-1 : Int32))), (9, .int v9), (0, .ref (X.2.2 83)), (4, .int v4), (6, .int v6), (8, .int v8)]) dX11_crew_151 rfl rfl (Nat.le_of_ble_eq_true rfl) rfl ?_
        refine gv_goto 154 S 110 dX11_crew_154 (by decide) ?_
        exact gv_sub [2, 3, 4, 5, 1, 0] rfl (ih M26 v4 v6 v8 v9 (v10 + (-1 : Int32)) h)
      · refine gv_iload 138 S 5 dX11_crew_138 rfl ?_
        refine gv_goto 140 S 145 dX11_crew_140 (by decide) ?_
        refine gv_istore 145 S (lv' := [(9, .int v10), (0, .ref (X.2.2 83)), (4, .int v4), (6, .int v6), (8, .int v8), (10, .int v10)]) dX11_crew_145 (Nat.le_of_ble_eq_true rfl) rfl ?_
        refine gv_aload_n 147 S 0 1 dX11_crew_147 rfl rfl ?_
        obtain ⟨M29, hc30, h⟩ := br_some h
        refine gv_cVv 148 S (As := []) (rest := []) (c_X11_putHeights l X M23 M29 hc30) (hO_83 X) rfl (cwV 0 S.1.2.2.2.2 gX11_crew_X11_putHeights rfl rfl rfl (by decide +kernel) ⟨Nat.le_of_ble_eq_true rfl, Nat.le_of_ble_eq_true rfl⟩) rfl rfl (Nat.le_of_ble_eq_true rfl) dX11_crew_148 ?_
        refine gv_iinc 151 S 5 (v10 + (-1 : Int32)) (lv' := [(10, .int (v10 + (-1 : Int32))), (9, .int v10), (0, .ref (X.2.2 83)), (4, .int v4), (6, .int v6), (8, .int v8)]) dX11_crew_151 rfl rfl (Nat.le_of_ble_eq_true rfl) rfl ?_
        refine gv_goto 154 S 110 dX11_crew_154 (by decide) ?_
        exact gv_sub [2, 3, 4, 5, 1, 0] rfl (ih M29 v4 v6 v8 v10 (v10 + (-1 : Int32)) h)
set_option maxHeartbeats 4000000 in
set_option maxRecDepth 100000 in
theorem c_X11_crew (l : Launch) (X : GE) (M : MM) (v1 : Int32) (v2 : Int32) (v3 : Int32) (v4 : Int32) (r : Int32) (M' : MM) (h : f_X11_crew M v1 v2 v3 v4 = some (r, M')) : CTi l yX11_crew wsX11_crew rm_X11_crew X [.ref (X.2.2 83), .int v1, .int v2, .int v3, .int v4] M r M' := by
  refine ct_i (own := RX11) (by decide +kernel) rfl rfl (Nat.le_of_ble_eq_true rfl) (lv0 := [(0, .ref (X.2.2 83)), (1, .int v1), (2, .int v2), (3, .int v3), (4, .int v4)]) rfl ?_
  intro p e s m args below meth c S
  unfold f_X11_crew at h
  refine gv_aload_n 0 S 0 0 dX11_crew_0 rfl rfl ?_
  refine gv_iconst 1 S (0 : Int32) dX11_crew_1 (by decide) ?_
  refine gv_put 2 S h (hP_83_fault X) mp_X11_crew_77 rfl rfl dX11_crew_2 (fun M1 h => ?_)
  refine gv_iload_n 5 S 1 1 dX11_crew_5 rfl rfl ?_
  obtain ⟨r2, hc3, h⟩ := br_some h
  refine gv_cSi 6 S (As := [.int v1]) (rest := []) (c_X11_isSheet l X M1 v1 r2 hc3) (va_cwS 1 S.1.2.2.2.2 gX11_crew_X11_isSheet rfl rfl rfl (by decide +kernel) ⟨Nat.le_of_ble_eq_true rfl, Nat.le_of_ble_eq_true rfl⟩) rfl rfl (Nat.le_of_ble_eq_true rfl) dX11_crew_6 ?_
  refine gv_if_ne 9 S 14 h dX11_crew_9 (by decide) (fun h => ?_) (fun h => ?_)
  · refine gv_iload_n 14 S 2 2 dX11_crew_14 rfl rfl ?_
    obtain ⟨r4, hc5, h⟩ := br_some h
    refine gv_cSi 15 S (As := [.int v2]) (rest := []) (c_X11_isSort l X M1 v2 r4 hc5) (va_cwS 1 S.1.2.2.2.2 gX11_crew_X11_isSort rfl rfl rfl (by decide +kernel) ⟨Nat.le_of_ble_eq_true rfl, Nat.le_of_ble_eq_true rfl⟩) rfl rfl (Nat.le_of_ble_eq_true rfl) dX11_crew_15 ?_
    refine gv_if_eq 18 S 32 h dX11_crew_18 (by decide) (fun h => ?_) (fun h => ?_)
    · refine gv_bipush 32 S (-2 : Int32) dX11_crew_32 (by decide) ?_
      exact gv_iret 34 S h dX11_crew_34
    · refine gv_iload 21 S 4 dX11_crew_21 rfl ?_
      refine gv_iconst 23 S (0 : Int32) dX11_crew_23 (by decide) ?_
      refine gv_bipush 24 S (20 : Int32) dX11_crew_24 (by decide) ?_
      obtain ⟨r6, hc7, h⟩ := br_some h
      refine gv_cSi 26 S (As := [.int v4, .int (0 : Int32), .int (20 : Int32)]) (rest := []) (c_X11_within l X M1 v4 (0 : Int32) (20 : Int32) r6 hc7) (va_cwS 3 S.1.2.2.2.2 gX11_crew_X11_within rfl rfl rfl (by decide +kernel) ⟨Nat.le_of_ble_eq_true rfl, Nat.le_of_ble_eq_true rfl⟩) rfl rfl (Nat.le_of_ble_eq_true rfl) dX11_crew_26 ?_
      refine gv_if_ne 29 S 35 h dX11_crew_29 (by decide) (fun h => ?_) (fun h => ?_)
      · refine gv_aload_n 35 S 0 0 dX11_crew_35 rfl rfl ?_
        refine gv_iload_n 36 S 1 1 dX11_crew_36 rfl rfl ?_
        refine gv_iload_n 37 S 2 2 dX11_crew_37 rfl rfl ?_
        refine gv_iload_n 38 S 3 3 dX11_crew_38 rfl rfl ?_
        refine gv_iconst 39 S (2 : Int32) dX11_crew_39 (by decide) ?_
        refine gv_iload 40 S 4 dX11_crew_40 rfl ?_
        refine gv_imul 42 S dX11_crew_42 ?_
        obtain ⟨r8, hc9, h⟩ := br_some h
        refine gv_cVi 43 S (As := [.int v1, .int v2, .int v3, .int ((2 : Int32) * v4)]) (rest := []) (c_X11_against l X M1 v1 v2 v3 ((2 : Int32) * v4) r8 hc9) (hO_83 X) rfl (cwV 4 S.1.2.2.2.2 gX11_crew_X11_against rfl rfl rfl (by decide +kernel) ⟨Nat.le_of_ble_eq_true rfl, Nat.le_of_ble_eq_true rfl⟩) rfl rfl (Nat.le_of_ble_eq_true rfl) dX11_crew_43 ?_
        refine gv_istore 46 S (lv' := [(5, .int r8), (0, .ref (X.2.2 83)), (1, .int v1), (2, .int v2), (3, .int v3), (4, .int v4)]) dX11_crew_46 (Nat.le_of_ble_eq_true rfl) rfl ?_
        refine gv_iload 48 S 0 dX11_crew_48 rfl ?_
        refine gv_if_eq 50 S 60 h dX11_crew_50 (by decide) (fun h => ?_) (fun h => ?_)
        · refine gv_aload_n 60 S 0 1 dX11_crew_60 rfl rfl ?_
          refine gv_get 61 S (hF_83_battens X) mf_X11_crew_87 dX11_crew_61 ?_
          refine gv_if_ne 64 S 70 h dX11_crew_64 (by decide) (fun h => ?_) (fun h => ?_)
          · refine gv_bipush 70 S (60 : Int32) dX11_crew_70 (by decide) ?_
            refine gv_iload_n 72 S 1 2 dX11_crew_72 rfl rfl ?_
            refine gv_imul 73 S dX11_crew_73 ?_
            refine gv_iload_n 74 S 3 4 dX11_crew_74 rfl rfl ?_
            refine gv_iadd 75 S dX11_crew_75 ?_
            refine gv_nmi h (fun x10 h => ?_)
            refine gv_istore 76 S (lv' := [(6, .int x10), (5, .int r8), (0, .ref (X.2.2 83)), (1, .int v1), (2, .int v2), (3, .int v3), (4, .int v4)]) dX11_crew_76 (Nat.le_of_ble_eq_true rfl) rfl ?_
            refine gv_aload_n 78 S 0 2 dX11_crew_78 rfl rfl ?_
            refine gv_iload 79 S 0 dX11_crew_79 rfl ?_
            refine gv_iload 81 S 6 dX11_crew_81 rfl ?_
            obtain ⟨r11, hc12, h⟩ := br_some h
            refine gv_cVi 83 S (As := [.int x10, .int v4]) (rest := []) (c_X11_refusesPairs l X M1 x10 v4 r11 hc12) (hO_83 X) rfl (cwV 2 S.1.2.2.2.2 gX11_crew_X11_refusesPairs rfl rfl rfl (by decide +kernel) ⟨Nat.le_of_ble_eq_true rfl, Nat.le_of_ble_eq_true rfl⟩) rfl rfl (Nat.le_of_ble_eq_true rfl) dX11_crew_83 ?_
            refine gv_istore 86 S (lv' := [(7, .int r11), (6, .int x10), (5, .int r8), (0, .ref (X.2.2 83)), (1, .int v1), (2, .int v2), (3, .int v3), (4, .int v4)]) dX11_crew_86 (Nat.le_of_ble_eq_true rfl) rfl ?_
            refine gv_iload 88 S 0 dX11_crew_88 rfl ?_
            refine gv_if_eq 90 S 96 h dX11_crew_90 (by decide) (fun h => ?_) (fun h => ?_)
            · refine gv_aload_n 96 S 0 3 dX11_crew_96 rfl rfl ?_
              refine gv_get 97 S (hF_83_hands X) mf_X11_crew_117 dX11_crew_97 ?_
              refine gv_nmi h (fun x13 h => ?_)
              refine gv_istore 100 S (lv' := [(8, .int x13), (7, .int r11), (6, .int x10), (5, .int r8), (0, .ref (X.2.2 83)), (1, .int v1), (2, .int v2), (3, .int v3), (4, .int v4)]) dX11_crew_100 (Nat.le_of_ble_eq_true rfl) rfl ?_
              refine gv_bipush 102 S (-9 : Int32) dX11_crew_102 (by decide) ?_
              refine gv_istore 104 S (lv' := [(9, .int (-9 : Int32)), (8, .int x13), (7, .int r11), (6, .int x10), (5, .int r8), (0, .ref (X.2.2 83)), (1, .int v1), (2, .int v2), (3, .int v3), (4, .int v4)]) dX11_crew_104 (Nat.le_of_ble_eq_true rfl) rfl ?_
              refine gv_bipush 106 S (6 : Int32) dX11_crew_106 (by decide) ?_
              refine gv_istore 108 S (lv' := [(10, .int (6 : Int32)), (9, .int (-9 : Int32)), (8, .int x13), (7, .int r11), (6, .int x10), (5, .int r8), (0, .ref (X.2.2 83)), (1, .int v1), (2, .int v2), (3, .int v3), (4, .int v4)]) dX11_crew_108 (Nat.le_of_ble_eq_true rfl) rfl ?_
              exact gv_sub [6, 10, 4, 2, 1, 0] rfl (t_X11_crew_110 S FU M1 v4 x10 x13 (-9 : Int32) (6 : Int32) h)
            · refine gv_iload 93 S 0 dX11_crew_93 rfl ?_
              exact gv_iret 95 S h dX11_crew_95
          · refine gv_bipush 67 S (-3 : Int32) dX11_crew_67 (by decide) ?_
            exact gv_iret 69 S h dX11_crew_69
        · refine gv_aload_n 53 S 0 1 dX11_crew_53 rfl rfl ?_
          refine gv_iload 54 S 0 dX11_crew_54 rfl ?_
          obtain ⟨r14, M15, hc16, h⟩ := bi_some h
          refine gv_cVi 56 S (As := [.int r8]) (rest := []) (c_X11_fails l X M1 r8 r14 M15 hc16) (hO_83 X) rfl (cwV 1 S.1.2.2.2.2 gX11_crew_X11_fails rfl rfl rfl (by decide +kernel) ⟨Nat.le_of_ble_eq_true rfl, Nat.le_of_ble_eq_true rfl⟩) rfl rfl (Nat.le_of_ble_eq_true rfl) dX11_crew_56 ?_
          exact gv_iret 59 S h dX11_crew_59
      · refine gv_bipush 32 S (-2 : Int32) dX11_crew_32 (by decide) ?_
        exact gv_iret 34 S h dX11_crew_34
  · refine gv_iconst 12 S (-1 : Int32) dX11_crew_12 (by decide) ?_
    exact gv_iret 13 S h dX11_crew_13
theorem mi_X11_placeBy_11 : ∀ w ∈ u_ws RX11 TX11 39, w ∈ wsX11_placeBy := by decide +kernel
theorem mf_X11_placeBy_28 : MF wsX11_placeBy RX11 28 10 12 := ⟨RX11, TX11, 39, rfl, by decide, mi_X11_placeBy_11, by decide +kernel⟩
abbrev rm_X11_placeBy : Room := { frames := 0, cells := 0, slots := 0, locals := 0 }
set_option maxHeartbeats 4000000 in
set_option maxRecDepth 100000 in
theorem t_X11_placeBy_31 {p : Program} {l : Launch} {e : Env} {s : State} {m : MethodId} {args : Array Value} {below : List Frame} {meth : Method} {c : Code} {X : GE} {M : MM} {r : Int32} (S : CX p s m args meth c cX11_placeBy 4 wsX11_placeBy RX11 (some .int) X) (v2 : Int32) (s0 : Int32) (h : g_X11_placeBy_31 M v2 s0 = some r) : V p l e (headSpec wsX11_placeBy rm_X11_placeBy).room s m args below meth c 4 X (MQ below (gQi X r M) args s 0 0 (gA X)) M 31 [(2, .int v2)] [.int s0] := by
  unfold g_X11_placeBy_31 at h
  refine gv_istore_n 31 S 3 (lv' := [(3, .int s0), (2, .int v2)]) dX11_placeBy_31 rfl (Nat.le_of_ble_eq_true rfl) rfl ?_
  refine gv_iload_n 32 S 2 1 dX11_placeBy_32 rfl rfl ?_
  refine gv_if_ne 33 S 40 h dX11_placeBy_33 (by decide) (fun h => ?_) (fun h => ?_)
  · refine gv_iload_n 40 S 2 1 dX11_placeBy_40 rfl rfl ?_
    refine gv_iconst 41 S (1 : Int32) dX11_placeBy_41 (by decide) ?_
    refine gv_icmp_ne 42 S 49 h dX11_placeBy_42 (by decide) (fun h => ?_) (fun h => ?_)
    · refine gv_bipush 49 S (9 : Int32) dX11_placeBy_49 (by decide) ?_
      exact gv_iretR 51 S h dX11_placeBy_51
    · refine gv_iload_n 45 S 3 0 dX11_placeBy_45 rfl rfl ?_
      refine gv_goto 46 S 51 dX11_placeBy_46 (by decide) ?_
      exact gv_iretR 51 S h dX11_placeBy_51
  · refine gv_iconst 36 S (0 : Int32) dX11_placeBy_36 (by decide) ?_
    refine gv_goto 37 S 51 dX11_placeBy_37 (by decide) ?_
    exact gv_iretR 51 S h dX11_placeBy_51
set_option maxHeartbeats 4000000 in
set_option maxRecDepth 100000 in
theorem c_X11_placeBy (l : Launch) (X : GE) (M : MM) (v1 : Int32) (v2 : Int32) (r : Int32) (h : f_X11_placeBy M v1 v2 = some r) : CTi l yX11_placeBy wsX11_placeBy rm_X11_placeBy X [.ref (X.2.2 83), .int v1, .int v2] M r M := by
  refine ct_i (own := RX11) (by decide +kernel) rfl rfl (Nat.le_of_ble_eq_true rfl) (lv0 := [(0, .ref (X.2.2 83)), (1, .int v1), (2, .int v2)]) rfl ?_
  intro p e s m args below meth c S
  unfold f_X11_placeBy at h
  refine gv_aload_n 0 S 0 0 dX11_placeBy_0 rfl rfl ?_
  refine gv_get 1 S (hF_83_height X) mf_X11_placeBy_28 dX11_placeBy_1 ?_
  refine gv_iload_n 4 S 1 1 dX11_placeBy_4 rfl rfl ?_
  refine gv_iald 5 S h (hI_90 X) dX11_placeBy_5 (fun h => ?_)
  refine gv_if_eq 6 S 20 h dX11_placeBy_6 (by decide) (fun h => ?_) (fun h => ?_)
  · refine gv_bipush 20 S (-9 : Int32) dX11_placeBy_20 (by decide) ?_
    refine gv_goto 22 S 31 dX11_placeBy_22 (by decide) ?_
    exact gv_sub [2] rfl (t_X11_placeBy_31 S v2 (-9 : Int32) h)
  · refine gv_aload_n 9 S 0 0 dX11_placeBy_9 rfl rfl ?_
    refine gv_get 10 S (hF_83_height X) mf_X11_placeBy_28 dX11_placeBy_10 ?_
    refine gv_iload_n 13 S 1 1 dX11_placeBy_13 rfl rfl ?_
    refine gv_iald 14 S h (hI_90 X) dX11_placeBy_14 (fun h => ?_)
    refine gv_bipush 15 S (9 : Int32) dX11_placeBy_15 (by decide) ?_
    refine gv_icmp_ne 17 S 25 h dX11_placeBy_17 (by decide) (fun h => ?_) (fun h => ?_)
    · refine gv_aload_n 25 S 0 0 dX11_placeBy_25 rfl rfl ?_
      refine gv_get 26 S (hF_83_height X) mf_X11_placeBy_28 dX11_placeBy_26 ?_
      refine gv_iload_n 29 S 1 1 dX11_placeBy_29 rfl rfl ?_
      refine gv_iald 30 S h (hI_90 X) dX11_placeBy_30 (fun h => ?_)
      exact gv_sub [2] rfl (t_X11_placeBy_31 S v2 (M 90 v1.toNatClampNeg) h)
    · refine gv_bipush 20 S (-9 : Int32) dX11_placeBy_20 (by decide) ?_
      refine gv_goto 22 S 31 dX11_placeBy_22 (by decide) ?_
      exact gv_sub [2] rfl (t_X11_placeBy_31 S v2 (-9 : Int32) h)
theorem mi_X11_goalsBy_11 : ∀ w ∈ u_ws RX11 TX11 39, w ∈ wsX11_goalsBy := by decide +kernel
theorem mp_X11_goalsBy_231 : MP wsX11_goalsBy RX11 231 10 31 .int := ⟨RX11, TX11, 39, tyX11, rfl, by decide, mi_X11_goalsBy_11, by decide +kernel, tyX11_ok, nmX11, rfl, by decide +kernel⟩
theorem mp_X11_goalsBy_234 : MP wsX11_goalsBy RX11 234 10 32 .int := ⟨RX11, TX11, 39, tyX11, rfl, by decide, mi_X11_goalsBy_11, by decide +kernel, tyX11_ok, nmX11, rfl, by decide +kernel⟩
theorem mf_X11_goalsBy_87 : MF wsX11_goalsBy RX11 87 10 5 := ⟨RX11, TX11, 39, rfl, by decide, mi_X11_goalsBy_11, by decide +kernel⟩
theorem mf_X11_goalsBy_37 : MF wsX11_goalsBy RX11 37 10 20 := ⟨RX11, TX11, 39, rfl, by decide, mi_X11_goalsBy_11, by decide +kernel⟩
theorem mf_X11_goalsBy_28 : MF wsX11_goalsBy RX11 28 10 12 := ⟨RX11, TX11, 39, rfl, by decide, mi_X11_goalsBy_11, by decide +kernel⟩
theorem mf_X11_goalsBy_117 : MF wsX11_goalsBy RX11 117 10 6 := ⟨RX11, TX11, 39, rfl, by decide, mi_X11_goalsBy_11, by decide +kernel⟩
theorem mf_X11_goalsBy_231 : MF wsX11_goalsBy RX11 231 10 31 := ⟨RX11, TX11, 39, rfl, by decide, mi_X11_goalsBy_11, by decide +kernel⟩
theorem mf_X11_goalsBy_234 : MF wsX11_goalsBy RX11 234 10 32 := ⟨RX11, TX11, 39, rfl, by decide, mi_X11_goalsBy_11, by decide +kernel⟩
abbrev rm_X11_goalsBy : Room := { frames := 1, cells := 0, slots := 0, locals := 23 }
set_option maxHeartbeats 4000000 in
set_option maxRecDepth 100000 in
theorem t_X11_goalsBy_108 {p : Program} {l : Launch} {e : Env} {s : State} {m : MethodId} {args : Array Value} {below : List Frame} {meth : Method} {c : Code} {X : GE} {r : Int32} {M' : MM} (S : CX p s m args meth c cX11_goalsBy 5 wsX11_goalsBy RX11 (some .boolean) X) (rec19 : MM → Int32 → Int32 → Option (Int32 × MM)) (hrec19 : ∀ (M : MM) (v2 : Int32) (v3 : Int32), rec19 M v2 v3 = some (r, M') → V p l e (headSpec wsX11_goalsBy rm_X11_goalsBy).room s m args below meth c 5 X (MQ below (gQi X r M') args s 0 0 (gA X)) M 19 [(0, .ref (X.2.2 83)), (2, .int v2), (3, .int v3)] []) (M : MM) (v2 : Int32) (v3 : Int32) (v4 : Int32) (s0 : Int32) (s1 : Int32) (h : g_X11_goalsBy_108 rec19 M v2 v3 v4 s0 s1 = some (r, M')) : V p l e (headSpec wsX11_goalsBy rm_X11_goalsBy).room s m args below meth c 5 X (MQ below (gQi X r M') args s 0 0 (gA X)) M 108 [(0, .ref (X.2.2 83)), (2, .int v2), (3, .int v3), (4, .int v4)] [.int s0, .int s1, .ref (X.2.2 83)] := by
  unfold g_X11_goalsBy_108 at h
  refine gv_iadd 108 S dX11_goalsBy_108 ?_
  refine gv_put 109 S h (hP_83_goMany X) mp_X11_goalsBy_231 rfl rfl dX11_goalsBy_109 (fun M10 h => ?_)
  refine gv_aload_n 112 S 0 0 dX11_goalsBy_112 rfl rfl ?_
  refine gv_dup 113 S dX11_goalsBy_113 rfl ?_
  refine gv_get 114 S (hF_83_goEffort X) mf_X11_goalsBy_234 dX11_goalsBy_114 ?_
  refine gv_iload 117 S 3 dX11_goalsBy_117 rfl ?_
  refine gv_if_eq 119 S 146 h dX11_goalsBy_119 (by decide) (fun h => ?_) (fun h => ?_)
  · refine gv_iconst 146 S (0 : Int32) dX11_goalsBy_146 (by decide) ?_
    refine gv_iadd 147 S dX11_goalsBy_147 ?_
    refine gv_put 148 S h (hP_83_goEffort X) mp_X11_goalsBy_234 rfl rfl dX11_goalsBy_148 (fun M11 h => ?_)
    refine gv_iinc 151 S 2 (v3 + (-1 : Int32)) (lv' := [(3, .int (v3 + (-1 : Int32))), (0, .ref (X.2.2 83)), (2, .int v2), (4, .int v4)]) dX11_goalsBy_151 rfl rfl (Nat.le_of_ble_eq_true rfl) rfl ?_
    refine gv_goto 154 S 19 dX11_goalsBy_154 (by decide) ?_
    exact gv_sub [1, 2, 0] rfl (hrec19 M11 v2 (v3 + (-1 : Int32)) h)
  · refine gv_aload_n 122 S 0 0 dX11_goalsBy_122 rfl rfl ?_
    refine gv_iload_n 123 S 3 2 dX11_goalsBy_123 rfl rfl ?_
    obtain ⟨r12, hc13, h⟩ := br_some h
    refine gv_cVi 124 S (As := [.int v3]) (rest := [.int (M10 83 32), .ref (X.2.2 83)]) (c_X11_pullOf l X M10 v3 r12 hc13) (hO_83 X) rfl (cwV 1 S.1.2.2.2.2 gX11_goalsBy_X11_pullOf rfl rfl rfl (by decide +kernel) ⟨Nat.le_of_ble_eq_true rfl, Nat.le_of_ble_eq_true rfl⟩) rfl rfl (Nat.le_of_ble_eq_true rfl) dX11_goalsBy_124 ?_
    refine gv_aload_n 127 S 0 0 dX11_goalsBy_127 rfl rfl ?_
    refine gv_get 128 S (hF_83_goal X) mf_X11_goalsBy_37 dX11_goalsBy_128 ?_
    refine gv_iload_n 131 S 3 2 dX11_goalsBy_131 rfl rfl ?_
    refine gv_iald 132 S h (hI_93 X) dX11_goalsBy_132 (fun h => ?_)
    refine gv_aload_n 133 S 0 0 dX11_goalsBy_133 rfl rfl ?_
    refine gv_get 134 S (hF_83_height X) mf_X11_goalsBy_28 dX11_goalsBy_134 ?_
    refine gv_iload_n 137 S 3 2 dX11_goalsBy_137 rfl rfl ?_
    refine gv_iald 138 S h (hI_90 X) dX11_goalsBy_138 (fun h => ?_)
    obtain ⟨r14, hc15, h⟩ := br_some h
    refine gv_cSi 139 S (As := [.int (M10 93 v3.toNatClampNeg), .int (M10 90 v3.toNatClampNeg)]) (rest := [.int r12, .int (M10 83 32), .ref (X.2.2 83)]) (c_X11_apart l X M10 (M10 93 v3.toNatClampNeg) (M10 90 v3.toNatClampNeg) r14 hc15) (va_cwS 2 S.1.2.2.2.2 gX11_goalsBy_X11_apart rfl rfl rfl (by decide +kernel) ⟨Nat.le_of_ble_eq_true rfl, Nat.le_of_ble_eq_true rfl⟩) rfl rfl (Nat.le_of_ble_eq_true rfl) dX11_goalsBy_139 ?_
    refine gv_imul 142 S dX11_goalsBy_142 ?_
    refine gv_goto 143 S 147 dX11_goalsBy_143 (by decide) ?_
    refine gv_iadd 147 S dX11_goalsBy_147 ?_
    refine gv_put 148 S h (hP_83_goEffort X) mp_X11_goalsBy_234 rfl rfl dX11_goalsBy_148 (fun M16 h => ?_)
    refine gv_iinc 151 S 2 (v3 + (-1 : Int32)) (lv' := [(3, .int (v3 + (-1 : Int32))), (0, .ref (X.2.2 83)), (2, .int v2), (4, .int v4)]) dX11_goalsBy_151 rfl rfl (Nat.le_of_ble_eq_true rfl) rfl ?_
    refine gv_goto 154 S 19 dX11_goalsBy_154 (by decide) ?_
    exact gv_sub [1, 2, 0] rfl (hrec19 M16 v2 (v3 + (-1 : Int32)) h)
set_option maxHeartbeats 4000000 in
set_option maxRecDepth 100000 in
theorem t_X11_goalsBy_93 {p : Program} {l : Launch} {e : Env} {s : State} {m : MethodId} {args : Array Value} {below : List Frame} {meth : Method} {c : Code} {X : GE} {r : Int32} {M' : MM} (S : CX p s m args meth c cX11_goalsBy 5 wsX11_goalsBy RX11 (some .boolean) X) (rec19 : MM → Int32 → Int32 → Option (Int32 × MM)) (hrec19 : ∀ (M : MM) (v2 : Int32) (v3 : Int32), rec19 M v2 v3 = some (r, M') → V p l e (headSpec wsX11_goalsBy rm_X11_goalsBy).room s m args below meth c 5 X (MQ below (gQi X r M') args s 0 0 (gA X)) M 19 [(0, .ref (X.2.2 83)), (2, .int v2), (3, .int v3)] []) (M : MM) (v2 : Int32) (v3 : Int32) (v4 : Int32) (h : g_X11_goalsBy_93 rec19 M v2 v3 v4 = some (r, M')) : V p l e (headSpec wsX11_goalsBy rm_X11_goalsBy).room s m args below meth c 5 X (MQ below (gQi X r M') args s 0 0 (gA X)) M 93 [(0, .ref (X.2.2 83)), (2, .int v2), (3, .int v3), (4, .int v4)] [] := by
  unfold g_X11_goalsBy_93 at h
  refine gv_aload_n 93 S 0 0 dX11_goalsBy_93 rfl rfl ?_
  refine gv_dup 94 S dX11_goalsBy_94 rfl ?_
  refine gv_get 95 S (hF_83_goMany X) mf_X11_goalsBy_231 dX11_goalsBy_95 ?_
  refine gv_iload 98 S 3 dX11_goalsBy_98 rfl ?_
  refine gv_if_eq 100 S 107 h dX11_goalsBy_100 (by decide) (fun h => ?_) (fun h => ?_)
  · refine gv_iconst 107 S (0 : Int32) dX11_goalsBy_107 (by decide) ?_
    exact gv_sub [0, 1, 2, 3] rfl (t_X11_goalsBy_108 S rec19 hrec19 M v2 v3 v4 (0 : Int32) (M 83 31) h)
  · refine gv_iconst 103 S (1 : Int32) dX11_goalsBy_103 (by decide) ?_
    refine gv_goto 104 S 108 dX11_goalsBy_104 (by decide) ?_
    exact gv_sub [0, 1, 2, 3] rfl (t_X11_goalsBy_108 S rec19 hrec19 M v2 v3 v4 (1 : Int32) (M 83 31) h)
set_option maxHeartbeats 4000000 in
set_option maxRecDepth 100000 in
theorem t_X11_goalsBy_61 {p : Program} {l : Launch} {e : Env} {s : State} {m : MethodId} {args : Array Value} {below : List Frame} {meth : Method} {c : Code} {X : GE} {r : Int32} {M' : MM} (S : CX p s m args meth c cX11_goalsBy 5 wsX11_goalsBy RX11 (some .boolean) X) (rec19 : MM → Int32 → Int32 → Option (Int32 × MM)) (hrec19 : ∀ (M : MM) (v2 : Int32) (v3 : Int32), rec19 M v2 v3 = some (r, M') → V p l e (headSpec wsX11_goalsBy rm_X11_goalsBy).room s m args below meth c 5 X (MQ below (gQi X r M') args s 0 0 (gA X)) M 19 [(0, .ref (X.2.2 83)), (2, .int v2), (3, .int v3)] []) (M : MM) (v2 : Int32) (v3 : Int32) (s0 : Int32) (h : g_X11_goalsBy_61 rec19 M v2 v3 s0 = some (r, M')) : V p l e (headSpec wsX11_goalsBy rm_X11_goalsBy).room s m args below meth c 5 X (MQ below (gQi X r M') args s 0 0 (gA X)) M 61 [(0, .ref (X.2.2 83)), (2, .int v2), (3, .int v3)] [.int s0] := by
  unfold g_X11_goalsBy_61 at h
  refine gv_istore 61 S (lv' := [(4, .int s0), (0, .ref (X.2.2 83)), (2, .int v2), (3, .int v3)]) dX11_goalsBy_61 (Nat.le_of_ble_eq_true rfl) rfl ?_
  refine gv_aload_n 63 S 0 1 dX11_goalsBy_63 rfl rfl ?_
  refine gv_get 64 S (hF_83_goal X) mf_X11_goalsBy_37 dX11_goalsBy_64 ?_
  refine gv_iload_n 67 S 3 3 dX11_goalsBy_67 rfl rfl ?_
  refine gv_iald 68 S h (hI_93 X) dX11_goalsBy_68 (fun h => ?_)
  refine gv_bipush 69 S (-9 : Int32) dX11_goalsBy_69 (by decide) ?_
  refine gv_icmp_eq 71 S 91 h dX11_goalsBy_71 (by decide) (fun h => ?_) (fun h => ?_)
  · refine gv_iconst 91 S (0 : Int32) dX11_goalsBy_91 (by decide) ?_
    exact gv_zret 92 S h rfl dX11_goalsBy_92
  · refine gv_iload 74 S 0 dX11_goalsBy_74 rfl ?_
    refine gv_if_eq 76 S 93 h dX11_goalsBy_76 (by decide) (fun h => ?_) (fun h => ?_)
    · exact gv_sub [1, 2, 3, 0] rfl (t_X11_goalsBy_93 S rec19 hrec19 M v2 v3 s0 h)
    · refine gv_aload_n 79 S 0 1 dX11_goalsBy_79 rfl rfl ?_
      refine gv_iload_n 80 S 3 3 dX11_goalsBy_80 rfl rfl ?_
      obtain ⟨r8, hc9, h⟩ := br_some h
      refine gv_cVi 81 S (As := [.int v3]) (rest := []) (c_X11_pullOf l X M v3 r8 hc9) (hO_83 X) rfl (cwV 1 S.1.2.2.2.2 gX11_goalsBy_X11_pullOf rfl rfl rfl (by decide +kernel) ⟨Nat.le_of_ble_eq_true rfl, Nat.le_of_ble_eq_true rfl⟩) rfl rfl (Nat.le_of_ble_eq_true rfl) dX11_goalsBy_81 ?_
      refine gv_aload_n 84 S 0 1 dX11_goalsBy_84 rfl rfl ?_
      refine gv_get 85 S (hF_83_hands X) mf_X11_goalsBy_117 dX11_goalsBy_85 ?_
      refine gv_icmp_le 88 S 93 h dX11_goalsBy_88 (by decide) (fun h => ?_) (fun h => ?_)
      · exact gv_sub [1, 2, 3, 0] rfl (t_X11_goalsBy_93 S rec19 hrec19 M v2 v3 s0 h)
      · refine gv_iconst 91 S (0 : Int32) dX11_goalsBy_91 (by decide) ?_
        exact gv_zret 92 S h rfl dX11_goalsBy_92
set_option maxHeartbeats 4000000 in
set_option maxRecDepth 100000 in
theorem t_X11_goalsBy_19 {p : Program} {l : Launch} {e : Env} {s : State} {m : MethodId} {args : Array Value} {below : List Frame} {meth : Method} {c : Code} {X : GE} {r : Int32} {M' : MM} (S : CX p s m args meth c cX11_goalsBy 5 wsX11_goalsBy RX11 (some .boolean) X) : ∀ (n : Nat) (M : MM) (v2 : Int32) (v3 : Int32) (h : g_X11_goalsBy_19 n M v2 v3 = some (r, M')), V p l e (headSpec wsX11_goalsBy rm_X11_goalsBy).room s m args below meth c 5 X (MQ below (gQi X r M') args s 0 0 (gA X)) M 19 [(0, .ref (X.2.2 83)), (2, .int v2), (3, .int v3)] [] := by
  intro n
  induction n with
  | zero =>
    intro M v2 v3 h
    rw [g_X11_goalsBy_19] at h
    cases h
  | succ n ih =>
    intro M v2 v3 h
    rw [g_X11_goalsBy_19] at h
    refine gv_iload_n 19 S 3 2 dX11_goalsBy_19 rfl rfl ?_
    refine gv_if_lt 20 S 157 h dX11_goalsBy_20 (by decide) (fun h => ?_) (fun h => ?_)
    · refine gv_iconst 157 S (1 : Int32) dX11_goalsBy_157 (by decide) ?_
      exact gv_zret 158 S h rfl dX11_goalsBy_158
    · refine gv_aload_n 23 S 0 0 dX11_goalsBy_23 rfl rfl ?_
      refine gv_get 24 S (hF_83_goal X) mf_X11_goalsBy_37 dX11_goalsBy_24 ?_
      refine gv_iload_n 27 S 3 2 dX11_goalsBy_27 rfl rfl ?_
      refine gv_aload_n 28 S 0 0 dX11_goalsBy_28 rfl rfl ?_
      refine gv_iload_n 29 S 3 2 dX11_goalsBy_29 rfl rfl ?_
      refine gv_iload_n 30 S 2 1 dX11_goalsBy_30 rfl rfl ?_
      refine gv_iconst 31 S (3 : Int32) dX11_goalsBy_31 (by decide) ?_
      refine gv_irem 32 S (by decide) dX11_goalsBy_32 ?_
      obtain ⟨r4, hc5, h⟩ := br_some h
      refine gv_cVi 33 S (As := [.int v3, .int (rm32 v2 (3 : Int32))]) (rest := [.int v3, .ref (X.2.2 93)]) (c_X11_placeBy l X M v3 (rm32 v2 (3 : Int32)) r4 hc5) (hO_83 X) rfl (cwV 2 S.1.2.2.2.2 gX11_goalsBy_X11_placeBy rfl rfl rfl (by decide +kernel) ⟨Nat.le_of_ble_eq_true rfl, Nat.le_of_ble_eq_true rfl⟩) rfl rfl (Nat.le_of_ble_eq_true rfl) dX11_goalsBy_33 ?_
      refine gv_iast 36 S h (hI_93 X) dX11_goalsBy_36 (fun M6 h => ?_)
      refine gv_iload_n 37 S 2 1 dX11_goalsBy_37 rfl rfl ?_
      refine gv_iconst 38 S (3 : Int32) dX11_goalsBy_38 (by decide) ?_
      refine gv_idiv 39 S (by decide) dX11_goalsBy_39 ?_
      refine gv_nmi h (fun x7 h => ?_)
      refine gv_istore_n 40 S 2 (lv' := [(2, .int x7), (0, .ref (X.2.2 83)), (3, .int v3)]) dX11_goalsBy_40 rfl (Nat.le_of_ble_eq_true rfl) rfl ?_
      refine gv_aload_n 41 S 0 1 dX11_goalsBy_41 rfl rfl ?_
      refine gv_get 42 S (hF_83_goal X) mf_X11_goalsBy_37 dX11_goalsBy_42 ?_
      refine gv_iload_n 45 S 3 2 dX11_goalsBy_45 rfl rfl ?_
      refine gv_iald 46 S h (hI_93 X) dX11_goalsBy_46 (fun h => ?_)
      refine gv_aload_n 47 S 0 1 dX11_goalsBy_47 rfl rfl ?_
      refine gv_get 48 S (hF_83_height X) mf_X11_goalsBy_28 dX11_goalsBy_48 ?_
      refine gv_iload_n 51 S 3 2 dX11_goalsBy_51 rfl rfl ?_
      refine gv_iald 52 S h (hI_90 X) dX11_goalsBy_52 (fun h => ?_)
      refine gv_icmp_eq 53 S 60 h dX11_goalsBy_53 (by decide) (fun h => ?_) (fun h => ?_)
      · refine gv_iconst 60 S (0 : Int32) dX11_goalsBy_60 (by decide) ?_
        exact gv_sub [1, 0, 2] rfl (t_X11_goalsBy_61 S (g_X11_goalsBy_19 n) ih M6 x7 v3 (0 : Int32) h)
      · refine gv_iconst 56 S (1 : Int32) dX11_goalsBy_56 (by decide) ?_
        refine gv_goto 57 S 61 dX11_goalsBy_57 (by decide) ?_
        exact gv_sub [1, 0, 2] rfl (t_X11_goalsBy_61 S (g_X11_goalsBy_19 n) ih M6 x7 v3 (1 : Int32) h)
set_option maxHeartbeats 4000000 in
set_option maxRecDepth 100000 in
theorem c_X11_goalsBy (l : Launch) (X : GE) (M : MM) (v1 : Int32) (r : Int32) (M' : MM) (h : f_X11_goalsBy M v1 = some (r, M')) : CTi l yX11_goalsBy wsX11_goalsBy rm_X11_goalsBy X [.ref (X.2.2 83), .int v1] M r M' := by
  refine ct_i (own := RX11) (by decide +kernel) rfl rfl (Nat.le_of_ble_eq_true rfl) (lv0 := [(0, .ref (X.2.2 83)), (1, .int v1)]) rfl ?_
  intro p e s m args below meth c S
  unfold f_X11_goalsBy at h
  refine gv_iload_n 0 S 1 1 dX11_goalsBy_0 rfl rfl ?_
  refine gv_istore_n 1 S 2 (lv' := [(2, .int v1), (0, .ref (X.2.2 83)), (1, .int v1)]) dX11_goalsBy_1 rfl (Nat.le_of_ble_eq_true rfl) rfl ?_
  refine gv_aload_n 2 S 0 1 dX11_goalsBy_2 rfl rfl ?_
  refine gv_iconst 3 S (0 : Int32) dX11_goalsBy_3 (by decide) ?_
  refine gv_put 4 S h (hP_83_goMany X) mp_X11_goalsBy_231 rfl rfl dX11_goalsBy_4 (fun M1 h => ?_)
  refine gv_aload_n 7 S 0 1 dX11_goalsBy_7 rfl rfl ?_
  refine gv_iconst 8 S (0 : Int32) dX11_goalsBy_8 (by decide) ?_
  refine gv_put 9 S h (hP_83_goEffort X) mp_X11_goalsBy_234 rfl rfl dX11_goalsBy_9 (fun M2 h => ?_)
  refine gv_aload_n 12 S 0 1 dX11_goalsBy_12 rfl rfl ?_
  refine gv_get 13 S (hF_83_battens X) mf_X11_goalsBy_87 dX11_goalsBy_13 ?_
  refine gv_iconst 16 S (1 : Int32) dX11_goalsBy_16 (by decide) ?_
  refine gv_isub 17 S dX11_goalsBy_17 ?_
  refine gv_nmi h (fun x3 h => ?_)
  refine gv_istore_n 18 S 3 (lv' := [(3, .int x3), (2, .int v1), (0, .ref (X.2.2 83)), (1, .int v1)]) dX11_goalsBy_18 rfl (Nat.le_of_ble_eq_true rfl) rfl ?_
  exact gv_sub [2, 1, 0] rfl (t_X11_goalsBy_19 S FU M2 v1 x3 h)
abbrev rm_X11_isPicture : Room := { frames := 2, cells := 0, slots := 0, locals := 44 }
set_option maxHeartbeats 4000000 in
set_option maxRecDepth 100000 in
theorem c_X11_isPicture (l : Launch) (X : GE) (M : MM) (v1 : Int32) (r : Int32) (M' : MM) (h : f_X11_isPicture M v1 = some (r, M')) : CTi l yX11_isPicture wsX11_isPicture rm_X11_isPicture X [.ref (X.2.2 83), .int v1] M r M' := by
  refine ct_i (own := RX11) (by decide +kernel) rfl rfl (Nat.le_of_ble_eq_true rfl) (lv0 := [(0, .ref (X.2.2 83)), (1, .int v1)]) rfl ?_
  intro p e s m args below meth c S
  unfold f_X11_isPicture at h
  refine gv_aload_n 0 S 0 0 dX11_isPicture_0 rfl rfl ?_
  obtain ⟨M2, hc3, h⟩ := br_some h
  refine gv_cVv 1 S (As := []) (rest := []) (c_X11_keepHeights l X M M2 hc3) (hO_83 X) rfl (cwV 0 S.1.2.2.2.2 gX11_isPicture_X11_keepHeights rfl rfl rfl (by decide +kernel) ⟨Nat.le_of_ble_eq_true rfl, Nat.le_of_ble_eq_true rfl⟩) rfl rfl (Nat.le_of_ble_eq_true rfl) dX11_isPicture_1 ?_
  refine gv_aload_n 4 S 0 0 dX11_isPicture_4 rfl rfl ?_
  obtain ⟨M5, hc6, h⟩ := br_some h
  refine gv_cVv 5 S (As := []) (rest := []) (c_X11_goes l X M2 M5 hc6) (hO_83 X) rfl (cwV 0 S.1.2.2.2.2 gX11_isPicture_X11_goes rfl rfl rfl (by decide +kernel) ⟨Nat.le_of_ble_eq_true rfl, Nat.le_of_ble_eq_true rfl⟩) rfl rfl (Nat.le_of_ble_eq_true rfl) dX11_isPicture_5 ?_
  refine gv_aload_n 8 S 0 0 dX11_isPicture_8 rfl rfl ?_
  obtain ⟨r7, hc8, h⟩ := br_some h
  refine gv_cVi 9 S (As := []) (rest := []) (c_X11_seenNow l X M5 r7 hc8) (hO_83 X) rfl (cwV 0 S.1.2.2.2.2 gX11_isPicture_X11_seenNow rfl rfl rfl (by decide +kernel) ⟨Nat.le_of_ble_eq_true rfl, Nat.le_of_ble_eq_true rfl⟩) rfl rfl (Nat.le_of_ble_eq_true rfl) dX11_isPicture_9 ?_
  refine gv_iload_n 12 S 1 1 dX11_isPicture_12 rfl rfl ?_
  refine gv_icmp_ne 13 S 20 h dX11_isPicture_13 (by decide) (fun h => ?_) (fun h => ?_)
  · refine gv_iconst 20 S (0 : Int32) dX11_isPicture_20 (by decide) ?_
    refine gv_istore_n 21 S 2 (lv' := [(2, .int (0 : Int32)), (0, .ref (X.2.2 83)), (1, .int v1)]) dX11_isPicture_21 rfl (Nat.le_of_ble_eq_true rfl) rfl ?_
    refine gv_aload_n 22 S 0 1 dX11_isPicture_22 rfl rfl ?_
    obtain ⟨M10, hc11, h⟩ := br_some h
    refine gv_cVv 23 S (As := []) (rest := []) (c_X11_putHeights l X M5 M10 hc11) (hO_83 X) rfl (cwV 0 S.1.2.2.2.2 gX11_isPicture_X11_putHeights rfl rfl rfl (by decide +kernel) ⟨Nat.le_of_ble_eq_true rfl, Nat.le_of_ble_eq_true rfl⟩) rfl rfl (Nat.le_of_ble_eq_true rfl) dX11_isPicture_23 ?_
    refine gv_iload_n 26 S 2 0 dX11_isPicture_26 rfl rfl ?_
    exact gv_zret 27 S h rfl dX11_isPicture_27
  · refine gv_iconst 16 S (1 : Int32) dX11_isPicture_16 (by decide) ?_
    refine gv_goto 17 S 21 dX11_isPicture_17 (by decide) ?_
    refine gv_istore_n 21 S 2 (lv' := [(2, .int (1 : Int32)), (0, .ref (X.2.2 83)), (1, .int v1)]) dX11_isPicture_21 rfl (Nat.le_of_ble_eq_true rfl) rfl ?_
    refine gv_aload_n 22 S 0 1 dX11_isPicture_22 rfl rfl ?_
    obtain ⟨M13, hc14, h⟩ := br_some h
    refine gv_cVv 23 S (As := []) (rest := []) (c_X11_putHeights l X M5 M13 hc14) (hO_83 X) rfl (cwV 0 S.1.2.2.2.2 gX11_isPicture_X11_putHeights rfl rfl rfl (by decide +kernel) ⟨Nat.le_of_ble_eq_true rfl, Nat.le_of_ble_eq_true rfl⟩) rfl rfl (Nat.le_of_ble_eq_true rfl) dX11_isPicture_23 ?_
    refine gv_iload_n 26 S 2 0 dX11_isPicture_26 rfl rfl ?_
    exact gv_zret 27 S h rfl dX11_isPicture_27
theorem mi_X11_findPicture_11 : ∀ w ∈ u_ws RX11 TX11 39, w ∈ wsX11_findPicture := by decide +kernel
theorem mf_X11_findPicture_87 : MF wsX11_findPicture RX11 87 10 5 := ⟨RX11, TX11, 39, rfl, by decide, mi_X11_findPicture_11, by decide +kernel⟩
theorem mf_X11_findPicture_231 : MF wsX11_findPicture RX11 231 10 31 := ⟨RX11, TX11, 39, rfl, by decide, mi_X11_findPicture_11, by decide +kernel⟩
theorem mf_X11_findPicture_234 : MF wsX11_findPicture RX11 234 10 32 := ⟨RX11, TX11, 39, rfl, by decide, mi_X11_findPicture_11, by decide +kernel⟩
theorem mf_X11_findPicture_59 : MF wsX11_findPicture RX11 59 10 30 := ⟨RX11, TX11, 39, rfl, by decide, mi_X11_findPicture_11, by decide +kernel⟩
theorem mf_X11_findPicture_37 : MF wsX11_findPicture RX11 37 10 20 := ⟨RX11, TX11, 39, rfl, by decide, mi_X11_findPicture_11, by decide +kernel⟩
abbrev rm_X11_findPicture : Room := { frames := 3, cells := 0, slots := 0, locals := 66 }
set_option maxHeartbeats 4000000 in
set_option maxRecDepth 100000 in
theorem t_X11_findPicture_85 {p : Program} {l : Launch} {e : Env} {s : State} {m : MethodId} {args : Array Value} {below : List Frame} {meth : Method} {c : Code} {X : GE} {r : Int32} {M' : MM} (S : CX p s m args meth c cX11_findPicture 6 wsX11_findPicture RX11 (some .int) X) (rec28 : MM → Int32 → Int32 → Int32 → Int32 → Option (Int32 × MM)) (hrec28 : ∀ (M : MM) (v1 : Int32) (v2 : Int32) (v3 : Int32) (v4 : Int32), rec28 M v1 v2 v3 v4 = some (r, M') → V p l e (headSpec wsX11_findPicture rm_X11_findPicture).room s m args below meth c 6 X (MQ below (gQi X r M') args s 0 0 (gA X)) M 28 [(0, .ref (X.2.2 83)), (1, .int v1), (2, .int v2), (3, .int v3), (4, .int v4)] []) : ∀ (n : Nat) (M : MM) (v1 : Int32) (v2 : Int32) (v3 : Int32) (v4 : Int32) (v5 : Int32) (h : g_X11_findPicture_85 rec28 n M v1 v2 v3 v4 v5 = some (r, M')), V p l e (headSpec wsX11_findPicture rm_X11_findPicture).room s m args below meth c 6 X (MQ below (gQi X r M') args s 0 0 (gA X)) M 85 [(0, .ref (X.2.2 83)), (1, .int v1), (2, .int v2), (3, .int v3), (4, .int v4), (5, .int v5)] [] := by
  intro n
  induction n with
  | zero =>
    intro M v1 v2 v3 v4 v5 h
    rw [g_X11_findPicture_85] at h
    cases h
  | succ n ih =>
    intro M v1 v2 v3 v4 v5 h
    rw [g_X11_findPicture_85] at h
    refine gv_iload 85 S 5 dX11_findPicture_85 rfl ?_
    refine gv_aload_n 87 S 0 0 dX11_findPicture_87 rfl rfl ?_
    refine gv_get 88 S (hF_83_battens X) mf_X11_findPicture_87 dX11_findPicture_88 ?_
    refine gv_icmp_ge 91 S 114 h dX11_findPicture_91 (by decide) (fun h => ?_) (fun h => ?_)
    · refine gv_iinc 114 S 4 (v4 + (1 : Int32)) (lv' := [(4, .int (v4 + (1 : Int32))), (0, .ref (X.2.2 83)), (1, .int v1), (2, .int v2), (3, .int v3), (5, .int v5)]) dX11_findPicture_114 rfl rfl (Nat.le_of_ble_eq_true rfl) rfl ?_
      refine gv_goto 117 S 28 dX11_findPicture_117 (by decide) ?_
      exact gv_sub [1, 2, 3, 4, 0] rfl (hrec28 M v1 v2 v3 (v4 + (1 : Int32)) h)
    · refine gv_aload_n 94 S 0 0 dX11_findPicture_94 rfl rfl ?_
      refine gv_get 95 S (hF_83_picture X) mf_X11_findPicture_59 dX11_findPicture_95 ?_
      refine gv_iload 98 S 5 dX11_findPicture_98 rfl ?_
      refine gv_aload_n 100 S 0 0 dX11_findPicture_100 rfl rfl ?_
      refine gv_get 101 S (hF_83_goal X) mf_X11_findPicture_37 dX11_findPicture_101 ?_
      refine gv_iload 104 S 5 dX11_findPicture_104 rfl ?_
      refine gv_iald 106 S h (hI_93 X) dX11_findPicture_106 (fun h => ?_)
      refine gv_iast 107 S h (hI_100 X) dX11_findPicture_107 (fun M9 h => ?_)
      refine gv_iinc 108 S 5 (v5 + (1 : Int32)) (lv' := [(5, .int (v5 + (1 : Int32))), (0, .ref (X.2.2 83)), (1, .int v1), (2, .int v2), (3, .int v3), (4, .int v4)]) dX11_findPicture_108 rfl rfl (Nat.le_of_ble_eq_true rfl) rfl ?_
      refine gv_goto 111 S 85 dX11_findPicture_111 (by decide) ?_
      exact gv_sub [1, 2, 3, 4, 5, 0] rfl (ih M9 v1 v2 v3 v4 (v5 + (1 : Int32)) h)
set_option maxHeartbeats 4000000 in
set_option maxRecDepth 100000 in
theorem t_X11_findPicture_28 {p : Program} {l : Launch} {e : Env} {s : State} {m : MethodId} {args : Array Value} {below : List Frame} {meth : Method} {c : Code} {X : GE} {r : Int32} {M' : MM} (S : CX p s m args meth c cX11_findPicture 6 wsX11_findPicture RX11 (some .int) X) : ∀ (n : Nat) (M : MM) (v1 : Int32) (v2 : Int32) (v3 : Int32) (v4 : Int32) (h : g_X11_findPicture_28 n M v1 v2 v3 v4 = some (r, M')), V p l e (headSpec wsX11_findPicture rm_X11_findPicture).room s m args below meth c 6 X (MQ below (gQi X r M') args s 0 0 (gA X)) M 28 [(0, .ref (X.2.2 83)), (1, .int v1), (2, .int v2), (3, .int v3), (4, .int v4)] [] := by
  intro n
  induction n with
  | zero =>
    intro M v1 v2 v3 v4 h
    rw [g_X11_findPicture_28] at h
    cases h
  | succ n ih =>
    intro M v1 v2 v3 v4 h
    rw [g_X11_findPicture_28] at h
    refine gv_iload 28 S 4 dX11_findPicture_28 rfl ?_
    refine gv_iload_n 30 S 2 2 dX11_findPicture_30 rfl rfl ?_
    refine gv_icmp_ge 31 S 120 h dX11_findPicture_31 (by decide) (fun h => ?_) (fun h => ?_)
    · refine gv_iload_n 120 S 3 3 dX11_findPicture_120 rfl rfl ?_
      exact gv_iret 121 S h dX11_findPicture_121
    · refine gv_aload_n 34 S 0 0 dX11_findPicture_34 rfl rfl ?_
      refine gv_iload 35 S 4 dX11_findPicture_35 rfl ?_
      obtain ⟨r2, M3, hc4, h⟩ := bi_some h
      refine gv_cVi 37 S (As := [.int v4]) (rest := []) (c_X11_goalsBy l X M v4 r2 M3 hc4) (hO_83 X) rfl (cwV 1 S.1.2.2.2.2 gX11_findPicture_X11_goalsBy rfl rfl rfl (by decide +kernel) ⟨Nat.le_of_ble_eq_true rfl, Nat.le_of_ble_eq_true rfl⟩) rfl rfl (Nat.le_of_ble_eq_true rfl) dX11_findPicture_37 ?_
      refine gv_if_eq 40 S 114 h dX11_findPicture_40 (by decide) (fun h => ?_) (fun h => ?_)
      · refine gv_iinc 114 S 4 (v4 + (1 : Int32)) (lv' := [(4, .int (v4 + (1 : Int32))), (0, .ref (X.2.2 83)), (1, .int v1), (2, .int v2), (3, .int v3)]) dX11_findPicture_114 rfl rfl (Nat.le_of_ble_eq_true rfl) rfl ?_
        refine gv_goto 117 S 28 dX11_findPicture_117 (by decide) ?_
        exact gv_sub [1, 2, 3, 4, 0] rfl (ih M3 v1 v2 v3 (v4 + (1 : Int32)) h)
      · refine gv_sipush 43 S (1000 : Int32) dX11_findPicture_43 (by decide) ?_
        refine gv_aload_n 46 S 0 0 dX11_findPicture_46 rfl rfl ?_
        refine gv_get 47 S (hF_83_goMany X) mf_X11_findPicture_231 dX11_findPicture_47 ?_
        refine gv_imul 50 S dX11_findPicture_50 ?_
        refine gv_aload_n 51 S 0 0 dX11_findPicture_51 rfl rfl ?_
        refine gv_get 52 S (hF_83_goEffort X) mf_X11_findPicture_234 dX11_findPicture_52 ?_
        refine gv_iadd 55 S dX11_findPicture_55 ?_
        refine gv_iload_n 56 S 3 3 dX11_findPicture_56 rfl rfl ?_
        refine gv_icmp_ge 57 S 114 h dX11_findPicture_57 (by decide) (fun h => ?_) (fun h => ?_)
        · refine gv_iinc 114 S 4 (v4 + (1 : Int32)) (lv' := [(4, .int (v4 + (1 : Int32))), (0, .ref (X.2.2 83)), (1, .int v1), (2, .int v2), (3, .int v3)]) dX11_findPicture_114 rfl rfl (Nat.le_of_ble_eq_true rfl) rfl ?_
          refine gv_goto 117 S 28 dX11_findPicture_117 (by decide) ?_
          exact gv_sub [1, 2, 3, 4, 0] rfl (ih M3 v1 v2 v3 (v4 + (1 : Int32)) h)
        · refine gv_aload_n 60 S 0 0 dX11_findPicture_60 rfl rfl ?_
          refine gv_iload_n 61 S 1 1 dX11_findPicture_61 rfl rfl ?_
          obtain ⟨r5, M6, hc7, h⟩ := bi_some h
          refine gv_cVi 62 S (As := [.int v1]) (rest := []) (c_X11_isPicture l X M3 v1 r5 M6 hc7) (hO_83 X) rfl (cwV 1 S.1.2.2.2.2 gX11_findPicture_X11_isPicture rfl rfl rfl (by decide +kernel) ⟨Nat.le_of_ble_eq_true rfl, Nat.le_of_ble_eq_true rfl⟩) rfl rfl (Nat.le_of_ble_eq_true rfl) dX11_findPicture_62 ?_
          refine gv_if_eq 65 S 114 h dX11_findPicture_65 (by decide) (fun h => ?_) (fun h => ?_)
          · refine gv_iinc 114 S 4 (v4 + (1 : Int32)) (lv' := [(4, .int (v4 + (1 : Int32))), (0, .ref (X.2.2 83)), (1, .int v1), (2, .int v2), (3, .int v3)]) dX11_findPicture_114 rfl rfl (Nat.le_of_ble_eq_true rfl) rfl ?_
            refine gv_goto 117 S 28 dX11_findPicture_117 (by decide) ?_
            exact gv_sub [1, 2, 3, 4, 0] rfl (ih M6 v1 v2 v3 (v4 + (1 : Int32)) h)
          · refine gv_sipush 68 S (1000 : Int32) dX11_findPicture_68 (by decide) ?_
            refine gv_aload_n 71 S 0 0 dX11_findPicture_71 rfl rfl ?_
            refine gv_get 72 S (hF_83_goMany X) mf_X11_findPicture_231 dX11_findPicture_72 ?_
            refine gv_imul 75 S dX11_findPicture_75 ?_
            refine gv_aload_n 76 S 0 0 dX11_findPicture_76 rfl rfl ?_
            refine gv_get 77 S (hF_83_goEffort X) mf_X11_findPicture_234 dX11_findPicture_77 ?_
            refine gv_iadd 80 S dX11_findPicture_80 ?_
            refine gv_nmi h (fun x8 h => ?_)
            refine gv_istore_n 81 S 3 (lv' := [(3, .int x8), (0, .ref (X.2.2 83)), (1, .int v1), (2, .int v2), (4, .int v4)]) dX11_findPicture_81 rfl (Nat.le_of_ble_eq_true rfl) rfl ?_
            refine gv_iconst 82 S (0 : Int32) dX11_findPicture_82 (by decide) ?_
            refine gv_istore 83 S (lv' := [(5, .int (0 : Int32)), (3, .int x8), (0, .ref (X.2.2 83)), (1, .int v1), (2, .int v2), (4, .int v4)]) dX11_findPicture_83 (Nat.le_of_ble_eq_true rfl) rfl ?_
            exact gv_sub [2, 3, 4, 1, 5, 0] rfl (t_X11_findPicture_85 S (g_X11_findPicture_28 n) ih FU M6 v1 v2 x8 v4 (0 : Int32) h)
set_option maxHeartbeats 4000000 in
set_option maxRecDepth 100000 in
theorem t_X11_findPicture_4 {p : Program} {l : Launch} {e : Env} {s : State} {m : MethodId} {args : Array Value} {below : List Frame} {meth : Method} {c : Code} {X : GE} {r : Int32} {M' : MM} (S : CX p s m args meth c cX11_findPicture 6 wsX11_findPicture RX11 (some .int) X) : ∀ (n : Nat) (M : MM) (v1 : Int32) (v2 : Int32) (v3 : Int32) (h : g_X11_findPicture_4 n M v1 v2 v3 = some (r, M')), V p l e (headSpec wsX11_findPicture rm_X11_findPicture).room s m args below meth c 6 X (MQ below (gQi X r M') args s 0 0 (gA X)) M 4 [(0, .ref (X.2.2 83)), (1, .int v1), (2, .int v2), (3, .int v3)] [] := by
  intro n
  induction n with
  | zero =>
    intro M v1 v2 v3 h
    rw [g_X11_findPicture_4] at h
    cases h
  | succ n ih =>
    intro M v1 v2 v3 h
    rw [g_X11_findPicture_4] at h
    refine gv_iload_n 4 S 3 3 dX11_findPicture_4 rfl rfl ?_
    refine gv_aload_n 5 S 0 0 dX11_findPicture_5 rfl rfl ?_
    refine gv_get 6 S (hF_83_battens X) mf_X11_findPicture_87 dX11_findPicture_6 ?_
    refine gv_icmp_ge 9 S 22 h dX11_findPicture_9 (by decide) (fun h => ?_) (fun h => ?_)
    · refine gv_ldc 22 S (v := (1000000 : Int32)) (by decide +kernel) dX11_findPicture_22 ?_
      refine gv_istore_n 24 S 3 (lv' := [(3, .int (1000000 : Int32)), (0, .ref (X.2.2 83)), (1, .int v1), (2, .int v2)]) dX11_findPicture_24 rfl (Nat.le_of_ble_eq_true rfl) rfl ?_
      refine gv_iconst 25 S (0 : Int32) dX11_findPicture_25 (by decide) ?_
      refine gv_istore 26 S (lv' := [(4, .int (0 : Int32)), (3, .int (1000000 : Int32)), (0, .ref (X.2.2 83)), (1, .int v1), (2, .int v2)]) dX11_findPicture_26 (Nat.le_of_ble_eq_true rfl) rfl ?_
      exact gv_sub [2, 3, 4, 1, 0] rfl (t_X11_findPicture_28 S FU M v1 v2 (1000000 : Int32) (0 : Int32) h)
    · refine gv_iload_n 12 S 2 2 dX11_findPicture_12 rfl rfl ?_
      refine gv_iconst 13 S (3 : Int32) dX11_findPicture_13 (by decide) ?_
      refine gv_imul 14 S dX11_findPicture_14 ?_
      refine gv_nmi h (fun x1 h => ?_)
      refine gv_istore_n 15 S 2 (lv' := [(2, .int x1), (0, .ref (X.2.2 83)), (1, .int v1), (3, .int v3)]) dX11_findPicture_15 rfl (Nat.le_of_ble_eq_true rfl) rfl ?_
      refine gv_iinc 16 S 3 (v3 + (1 : Int32)) (lv' := [(3, .int (v3 + (1 : Int32))), (2, .int x1), (0, .ref (X.2.2 83)), (1, .int v1)]) dX11_findPicture_16 rfl rfl (Nat.le_of_ble_eq_true rfl) rfl ?_
      refine gv_goto 19 S 4 dX11_findPicture_19 (by decide) ?_
      exact gv_sub [2, 3, 1, 0] rfl (ih M v1 x1 (v3 + (1 : Int32)) h)
set_option maxHeartbeats 4000000 in
set_option maxRecDepth 100000 in
theorem c_X11_findPicture (l : Launch) (X : GE) (M : MM) (v1 : Int32) (r : Int32) (M' : MM) (h : f_X11_findPicture M v1 = some (r, M')) : CTi l yX11_findPicture wsX11_findPicture rm_X11_findPicture X [.ref (X.2.2 83), .int v1] M r M' := by
  refine ct_i (own := RX11) (by decide +kernel) rfl rfl (Nat.le_of_ble_eq_true rfl) (lv0 := [(0, .ref (X.2.2 83)), (1, .int v1)]) rfl ?_
  intro p e s m args below meth c S
  unfold f_X11_findPicture at h
  refine gv_iconst 0 S (1 : Int32) dX11_findPicture_0 (by decide) ?_
  refine gv_istore_n 1 S 2 (lv' := [(2, .int (1 : Int32)), (0, .ref (X.2.2 83)), (1, .int v1)]) dX11_findPicture_1 rfl (Nat.le_of_ble_eq_true rfl) rfl ?_
  refine gv_iconst 2 S (0 : Int32) dX11_findPicture_2 (by decide) ?_
  refine gv_istore_n 3 S 3 (lv' := [(3, .int (0 : Int32)), (2, .int (1 : Int32)), (0, .ref (X.2.2 83)), (1, .int v1)]) dX11_findPicture_3 rfl (Nat.le_of_ble_eq_true rfl) rfl ?_
  exact gv_sub [2, 3, 1, 0] rfl (t_X11_findPicture_4 S FU M v1 (1 : Int32) (0 : Int32) h)
theorem mi_X11_picture_11 : ∀ w ∈ u_ws RX11 TX11 39, w ∈ wsX11_picture := by decide +kernel
theorem mf_X11_picture_87 : MF wsX11_picture RX11 87 10 5 := ⟨RX11, TX11, 39, rfl, by decide, mi_X11_picture_11, by decide +kernel⟩
theorem mf_X11_picture_59 : MF wsX11_picture RX11 59 10 30 := ⟨RX11, TX11, 39, rfl, by decide, mi_X11_picture_11, by decide +kernel⟩
abbrev rm_X11_picture : Room := { frames := 4, cells := 0, slots := 0, locals := 91 }
set_option maxHeartbeats 4000000 in
set_option maxRecDepth 100000 in
theorem c_X11_picture (l : Launch) (X : GE) (M : MM) (v1 : Int32) (v2 : Int32) (r : Int32) (M' : MM) (h : f_X11_picture M v1 v2 = some (r, M')) : CTi l yX11_picture wsX11_picture rm_X11_picture X [.ref (X.2.2 83), .int v1, .int v2] M r M' := by
  refine ct_i (own := RX11) (by decide +kernel) rfl rfl (Nat.le_of_ble_eq_true rfl) (lv0 := [(0, .ref (X.2.2 83)), (1, .int v1), (2, .int v2)]) rfl ?_
  intro p e s m args below meth c S
  unfold f_X11_picture at h
  refine gv_aload_n 0 S 0 0 dX11_picture_0 rfl rfl ?_
  refine gv_get 1 S (hF_83_battens X) mf_X11_picture_87 dX11_picture_1 ?_
  refine gv_if_ne 4 S 10 h dX11_picture_4 (by decide) (fun h => ?_) (fun h => ?_)
  · refine gv_iload_n 10 S 1 1 dX11_picture_10 rfl rfl ?_
    refine gv_iconst 11 S (0 : Int32) dX11_picture_11 (by decide) ?_
    refine gv_iconst 12 S (1 : Int32) dX11_picture_12 (by decide) ?_
    refine gv_aload_n 13 S 0 0 dX11_picture_13 rfl rfl ?_
    refine gv_get 14 S (hF_83_battens X) mf_X11_picture_87 dX11_picture_14 ?_
    refine gv_ishl 17 S dX11_picture_17 ?_
    refine gv_iconst 18 S (1 : Int32) dX11_picture_18 (by decide) ?_
    refine gv_isub 19 S dX11_picture_19 ?_
    obtain ⟨r1, hc2, h⟩ := br_some h
    refine gv_cSi 20 S (As := [.int v1, .int (0 : Int32), .int ((sl32 (1 : Int32) (M 83 5)) - (1 : Int32))]) (rest := []) (c_X11_within l X M v1 (0 : Int32) ((sl32 (1 : Int32) (M 83 5)) - (1 : Int32)) r1 hc2) (va_cwS 3 S.1.2.2.2.2 gX11_picture_X11_within rfl rfl rfl (by decide +kernel) ⟨Nat.le_of_ble_eq_true rfl, Nat.le_of_ble_eq_true rfl⟩) rfl rfl (Nat.le_of_ble_eq_true rfl) dX11_picture_20 ?_
    refine gv_if_eq 23 S 37 h dX11_picture_23 (by decide) (fun h => ?_) (fun h => ?_)
    · refine gv_bipush 37 S (-2 : Int32) dX11_picture_37 (by decide) ?_
      exact gv_iret 39 S h dX11_picture_39
    · refine gv_iload_n 26 S 2 2 dX11_picture_26 rfl rfl ?_
      refine gv_bipush 27 S (-2 : Int32) dX11_picture_27 (by decide) ?_
      refine gv_bipush 29 S (7 : Int32) dX11_picture_29 (by decide) ?_
      obtain ⟨r3, hc4, h⟩ := br_some h
      refine gv_cSi 31 S (As := [.int v2, .int (-2 : Int32), .int (7 : Int32)]) (rest := []) (c_X11_within l X M v2 (-2 : Int32) (7 : Int32) r3 hc4) (va_cwS 3 S.1.2.2.2.2 gX11_picture_X11_within rfl rfl rfl (by decide +kernel) ⟨Nat.le_of_ble_eq_true rfl, Nat.le_of_ble_eq_true rfl⟩) rfl rfl (Nat.le_of_ble_eq_true rfl) dX11_picture_31 ?_
      refine gv_if_ne 34 S 40 h dX11_picture_34 (by decide) (fun h => ?_) (fun h => ?_)
      · refine gv_aload_n 40 S 0 0 dX11_picture_40 rfl rfl ?_
        refine gv_iload_n 41 S 1 1 dX11_picture_41 rfl rfl ?_
        obtain ⟨r5, M6, hc7, h⟩ := bi_some h
        refine gv_cVi 42 S (As := [.int v1]) (rest := []) (c_X11_findPicture l X M v1 r5 M6 hc7) (hO_83 X) rfl (cwV 1 S.1.2.2.2.2 gX11_picture_X11_findPicture rfl rfl rfl (by decide +kernel) ⟨Nat.le_of_ble_eq_true rfl, Nat.le_of_ble_eq_true rfl⟩) rfl rfl (Nat.le_of_ble_eq_true rfl) dX11_picture_42 ?_
        refine gv_istore_n 45 S 3 (lv' := [(3, .int r5), (0, .ref (X.2.2 83)), (1, .int v1), (2, .int v2)]) dX11_picture_45 rfl (Nat.le_of_ble_eq_true rfl) rfl ?_
        refine gv_iload_n 46 S 3 0 dX11_picture_46 rfl rfl ?_
        refine gv_ldc 47 S (v := (1000000 : Int32)) (by decide +kernel) dX11_picture_47 ?_
        refine gv_icmp_ne 49 S 55 h dX11_picture_49 (by decide) (fun h => ?_) (fun h => ?_)
        · refine gv_iload_n 55 S 2 3 dX11_picture_55 rfl rfl ?_
          refine gv_if_ge 56 S 79 h dX11_picture_56 (by decide) (fun h => ?_) (fun h => ?_)
          · refine gv_aload_n 79 S 0 1 dX11_picture_79 rfl rfl ?_
            refine gv_iload_n 80 S 2 3 dX11_picture_80 rfl rfl ?_
            obtain ⟨r8, hc9, h⟩ := br_some h
            refine gv_cVi 81 S (As := [.int v2]) (rest := []) (c_X11_isBatten l X M6 v2 r8 hc9) (hO_83 X) rfl (cwV 1 S.1.2.2.2.2 gX11_picture_X11_isBatten rfl rfl rfl (by decide +kernel) ⟨Nat.le_of_ble_eq_true rfl, Nat.le_of_ble_eq_true rfl⟩) rfl rfl (Nat.le_of_ble_eq_true rfl) dX11_picture_81 ?_
            refine gv_if_eq 84 S 96 h dX11_picture_84 (by decide) (fun h => ?_) (fun h => ?_)
            · refine gv_bipush 96 S (-9 : Int32) dX11_picture_96 (by decide) ?_
              exact gv_iret 98 S h dX11_picture_98
            · refine gv_aload_n 87 S 0 1 dX11_picture_87 rfl rfl ?_
              refine gv_get 88 S (hF_83_picture X) mf_X11_picture_59 dX11_picture_88 ?_
              refine gv_iload_n 91 S 2 3 dX11_picture_91 rfl rfl ?_
              refine gv_iald 92 S h (hI_100 X) dX11_picture_92 (fun h => ?_)
              refine gv_goto 93 S 98 dX11_picture_93 (by decide) ?_
              exact gv_iret 98 S h dX11_picture_98
          · refine gv_iload_n 59 S 2 3 dX11_picture_59 rfl rfl ?_
            refine gv_bipush 60 S (-2 : Int32) dX11_picture_60 (by decide) ?_
            refine gv_icmp_ne 62 S 73 h dX11_picture_62 (by decide) (fun h => ?_) (fun h => ?_)
            · refine gv_iload_n 73 S 3 0 dX11_picture_73 rfl rfl ?_
              refine gv_sipush 74 S (1000 : Int32) dX11_picture_74 (by decide) ?_
              refine gv_irem 77 S (by decide) dX11_picture_77 ?_
              exact gv_iret 78 S h dX11_picture_78
            · refine gv_iload_n 65 S 3 0 dX11_picture_65 rfl rfl ?_
              refine gv_sipush 66 S (1000 : Int32) dX11_picture_66 (by decide) ?_
              refine gv_idiv 69 S (by decide) dX11_picture_69 ?_
              refine gv_goto 70 S 78 dX11_picture_70 (by decide) ?_
              exact gv_iret 78 S h dX11_picture_78
        · refine gv_bipush 52 S (-9 : Int32) dX11_picture_52 (by decide) ?_
          exact gv_iret 54 S h dX11_picture_54
      · refine gv_bipush 37 S (-2 : Int32) dX11_picture_37 (by decide) ?_
        exact gv_iret 39 S h dX11_picture_39
  · refine gv_bipush 7 S (-3 : Int32) dX11_picture_7 (by decide) ?_
    exact gv_iret 9 S h dX11_picture_9
theorem mi_X11_canSplit_11 : ∀ w ∈ u_ws RX11 TX11 39, w ∈ wsX11_canSplit := by decide +kernel
theorem mf_X11_canSplit_62 : MF wsX11_canSplit RX11 62 10 33 := ⟨RX11, TX11, 39, rfl, by decide, mi_X11_canSplit_11, by decide +kernel⟩
theorem mf_X11_canSplit_37 : MF wsX11_canSplit RX11 37 10 20 := ⟨RX11, TX11, 39, rfl, by decide, mi_X11_canSplit_11, by decide +kernel⟩
theorem mf_X11_canSplit_16 : MF wsX11_canSplit RX11 16 10 4 := ⟨RX11, TX11, 39, rfl, by decide, mi_X11_canSplit_11, by decide +kernel⟩
abbrev rm_X11_canSplit : Room := { frames := 2, cells := 0, slots := 0, locals := 44 }
set_option maxHeartbeats 4000000 in
set_option maxRecDepth 100000 in
theorem t_X11_canSplit_28 {p : Program} {l : Launch} {e : Env} {s : State} {m : MethodId} {args : Array Value} {below : List Frame} {meth : Method} {c : Code} {X : GE} {r : Int32} {M' : MM} (S : CX p s m args meth c cX11_canSplit 7 wsX11_canSplit RX11 (some .boolean) X) (rec10 : MM → Int32 → Int32 → Int32 → Int32 → Int32 → Option (Int32 × MM)) (hrec10 : ∀ (M : MM) (v1 : Int32) (v2 : Int32) (v3 : Int32) (v4 : Int32) (v5 : Int32), rec10 M v1 v2 v3 v4 v5 = some (r, M') → V p l e (headSpec wsX11_canSplit rm_X11_canSplit).room s m args below meth c 7 X (MQ below (gQi X r M') args s 0 0 (gA X)) M 10 [(0, .ref (X.2.2 83)), (1, .int v1), (2, .int v2), (3, .int v3), (4, .int v4), (5, .int v5)] []) : ∀ (n : Nat) (M : MM) (v1 : Int32) (v2 : Int32) (v3 : Int32) (v5 : Int32) (v6 : Int32) (h : g_X11_canSplit_28 rec10 n M v1 v2 v3 v5 v6 = some (r, M')), V p l e (headSpec wsX11_canSplit rm_X11_canSplit).room s m args below meth c 7 X (MQ below (gQi X r M') args s 0 0 (gA X)) M 28 [(0, .ref (X.2.2 83)), (1, .int v1), (2, .int v2), (3, .int v3), (5, .int v5), (6, .int v6)] [] := by
  intro n
  induction n with
  | zero =>
    intro M v1 v2 v3 v5 v6 h
    rw [g_X11_canSplit_28] at h
    cases h
  | succ n ih =>
    intro M v1 v2 v3 v5 v6 h
    rw [g_X11_canSplit_28] at h
    refine gv_iload 28 S 5 dX11_canSplit_28 rfl ?_
    refine gv_iload_n 30 S 2 2 dX11_canSplit_30 rfl rfl ?_
    refine gv_icmp_ge 31 S 81 h dX11_canSplit_31 (by decide) (fun h => ?_) (fun h => ?_)
    · refine gv_aload_n 81 S 0 0 dX11_canSplit_81 rfl rfl ?_
      obtain ⟨r13, hc14, h⟩ := br_some h
      refine gv_cVi 82 S (As := []) (rest := []) (c_X11_canBe l X M r13 hc14) (hO_83 X) rfl (cwV 0 S.1.2.2.2.2 gX11_canSplit_X11_canBe rfl rfl rfl (by decide +kernel) ⟨Nat.le_of_ble_eq_true rfl, Nat.le_of_ble_eq_true rfl⟩) rfl rfl (Nat.le_of_ble_eq_true rfl) dX11_canSplit_82 ?_
      refine gv_istore 85 S (lv' := [(4, .int r13), (0, .ref (X.2.2 83)), (1, .int v1), (2, .int v2), (3, .int v3), (5, .int v5), (6, .int v6)]) dX11_canSplit_85 (Nat.le_of_ble_eq_true rfl) rfl ?_
      refine gv_iload 87 S 0 dX11_canSplit_87 rfl ?_
      refine gv_if_eq 89 S 96 h dX11_canSplit_89 (by decide) (fun h => ?_) (fun h => ?_)
      · refine gv_iinc 96 S 5 (v5 + (1 : Int32)) (lv' := [(5, .int (v5 + (1 : Int32))), (4, .int r13), (0, .ref (X.2.2 83)), (1, .int v1), (2, .int v2), (3, .int v3), (6, .int v6)]) dX11_canSplit_96 rfl rfl (Nat.le_of_ble_eq_true rfl) rfl ?_
        refine gv_goto 99 S 10 dX11_canSplit_99 (by decide) ?_
        exact gv_sub [2, 3, 4, 5, 1, 0] rfl (hrec10 M v1 v2 v3 r13 (v5 + (1 : Int32)) h)
      · refine gv_aload_n 92 S 0 1 dX11_canSplit_92 rfl rfl ?_
        obtain ⟨M16, hc17, h⟩ := br_some h
        refine gv_cVv 93 S (As := []) (rest := []) (c_X11_goes l X M M16 hc17) (hO_83 X) rfl (cwV 0 S.1.2.2.2.2 gX11_canSplit_X11_goes rfl rfl rfl (by decide +kernel) ⟨Nat.le_of_ble_eq_true rfl, Nat.le_of_ble_eq_true rfl⟩) rfl rfl (Nat.le_of_ble_eq_true rfl) dX11_canSplit_93 ?_
        refine gv_iinc 96 S 5 (v5 + (1 : Int32)) (lv' := [(5, .int (v5 + (1 : Int32))), (4, .int r13), (0, .ref (X.2.2 83)), (1, .int v1), (2, .int v2), (3, .int v3), (6, .int v6)]) dX11_canSplit_96 rfl rfl (Nat.le_of_ble_eq_true rfl) rfl ?_
        refine gv_goto 99 S 10 dX11_canSplit_99 (by decide) ?_
        exact gv_sub [2, 3, 4, 5, 1, 0] rfl (hrec10 M16 v1 v2 v3 r13 (v5 + (1 : Int32)) h)
    · refine gv_aload_n 34 S 0 0 dX11_canSplit_34 rfl rfl ?_
      refine gv_get 35 S (hF_83_cueOf X) mf_X11_canSplit_62 dX11_canSplit_35 ?_
      refine gv_iload 38 S 5 dX11_canSplit_38 rfl ?_
      refine gv_iald 40 S h (hI_101 X) dX11_canSplit_40 (fun h => ?_)
      refine gv_iload 41 S 4 dX11_canSplit_41 rfl ?_
      refine gv_icmp_ne 43 S 75 h dX11_canSplit_43 (by decide) (fun h => ?_) (fun h => ?_)
      · refine gv_iinc 75 S 5 (v6 + (1 : Int32)) (lv' := [(6, .int (v6 + (1 : Int32))), (0, .ref (X.2.2 83)), (1, .int v1), (2, .int v2), (3, .int v3), (5, .int v5)]) dX11_canSplit_75 rfl rfl (Nat.le_of_ble_eq_true rfl) rfl ?_
        refine gv_goto 78 S 28 dX11_canSplit_78 (by decide) ?_
        exact gv_sub [1, 2, 3, 4, 5, 0] rfl (ih M v1 v2 v3 v5 (v6 + (1 : Int32)) h)
      · refine gv_aload_n 46 S 0 0 dX11_canSplit_46 rfl rfl ?_
        refine gv_get 47 S (hF_83_goal X) mf_X11_canSplit_37 dX11_canSplit_47 ?_
        refine gv_aload_n 50 S 0 0 dX11_canSplit_50 rfl rfl ?_
        refine gv_get 51 S (hF_83_cells X) mf_X11_canSplit_16 dX11_canSplit_51 ?_
        refine gv_iload_n 54 S 1 1 dX11_canSplit_54 rfl rfl ?_
        refine gv_iconst 55 S (2 : Int32) dX11_canSplit_55 (by decide) ?_
        refine gv_iload 56 S 5 dX11_canSplit_56 rfl ?_
        refine gv_imul 58 S dX11_canSplit_58 ?_
        refine gv_iadd 59 S dX11_canSplit_59 ?_
        refine gv_iald 60 S h (hI_86 X) dX11_canSplit_60 (fun h => ?_)
        refine gv_aload_n 61 S 0 0 dX11_canSplit_61 rfl rfl ?_
        refine gv_get 62 S (hF_83_cells X) mf_X11_canSplit_16 dX11_canSplit_62 ?_
        refine gv_iload_n 65 S 1 1 dX11_canSplit_65 rfl rfl ?_
        refine gv_iconst 66 S (2 : Int32) dX11_canSplit_66 (by decide) ?_
        refine gv_iload 67 S 5 dX11_canSplit_67 rfl ?_
        refine gv_imul 69 S dX11_canSplit_69 ?_
        refine gv_iadd 70 S dX11_canSplit_70 ?_
        refine gv_iconst 71 S (1 : Int32) dX11_canSplit_71 (by decide) ?_
        refine gv_iadd 72 S dX11_canSplit_72 ?_
        refine gv_iald 73 S h (hI_86 X) dX11_canSplit_73 (fun h => ?_)
        refine gv_iast 74 S h (hI_93 X) dX11_canSplit_74 (fun M18 h => ?_)
        refine gv_iinc 75 S 5 (v6 + (1 : Int32)) (lv' := [(6, .int (v6 + (1 : Int32))), (0, .ref (X.2.2 83)), (1, .int v1), (2, .int v2), (3, .int v3), (5, .int v5)]) dX11_canSplit_75 rfl rfl (Nat.le_of_ble_eq_true rfl) rfl ?_
        refine gv_goto 78 S 28 dX11_canSplit_78 (by decide) ?_
        exact gv_sub [1, 2, 3, 4, 5, 0] rfl (ih M18 v1 v2 v3 v5 (v6 + (1 : Int32)) h)
set_option maxHeartbeats 4000000 in
set_option maxRecDepth 100000 in
theorem t_X11_canSplit_10 {p : Program} {l : Launch} {e : Env} {s : State} {m : MethodId} {args : Array Value} {below : List Frame} {meth : Method} {c : Code} {X : GE} {r : Int32} {M' : MM} (S : CX p s m args meth c cX11_canSplit 7 wsX11_canSplit RX11 (some .boolean) X) : ∀ (n : Nat) (M : MM) (v1 : Int32) (v2 : Int32) (v3 : Int32) (v4 : Int32) (v5 : Int32) (h : g_X11_canSplit_10 n M v1 v2 v3 v4 v5 = some (r, M')), V p l e (headSpec wsX11_canSplit rm_X11_canSplit).room s m args below meth c 7 X (MQ below (gQi X r M') args s 0 0 (gA X)) M 10 [(0, .ref (X.2.2 83)), (1, .int v1), (2, .int v2), (3, .int v3), (4, .int v4), (5, .int v5)] [] := by
  intro n
  induction n with
  | zero =>
    intro M v1 v2 v3 v4 v5 h
    rw [g_X11_canSplit_10] at h
    cases h
  | succ n ih =>
    intro M v1 v2 v3 v4 v5 h
    rw [g_X11_canSplit_10] at h
    refine gv_iload 10 S 5 dX11_canSplit_10 rfl ?_
    refine gv_iload_n 12 S 3 3 dX11_canSplit_12 rfl rfl ?_
    refine gv_icmp_ge 13 S 102 h dX11_canSplit_13 (by decide) (fun h => ?_) (fun h => ?_)
    · refine gv_aload_n 102 S 0 0 dX11_canSplit_102 rfl rfl ?_
      obtain ⟨M5, hc6, h⟩ := br_some h
      refine gv_cVv 103 S (As := []) (rest := []) (c_X11_putHeights l X M M5 hc6) (hO_83 X) rfl (cwV 0 S.1.2.2.2.2 gX11_canSplit_X11_putHeights rfl rfl rfl (by decide +kernel) ⟨Nat.le_of_ble_eq_true rfl, Nat.le_of_ble_eq_true rfl⟩) rfl rfl (Nat.le_of_ble_eq_true rfl) dX11_canSplit_103 ?_
      refine gv_iload 106 S 4 dX11_canSplit_106 rfl ?_
      exact gv_zretG 108 S h dX11_canSplit_108
    · refine gv_iload 16 S 4 dX11_canSplit_16 rfl ?_
      refine gv_if_eq 18 S 102 h dX11_canSplit_18 (by decide) (fun h => ?_) (fun h => ?_)
      · refine gv_aload_n 102 S 0 0 dX11_canSplit_102 rfl rfl ?_
        obtain ⟨M8, hc9, h⟩ := br_some h
        refine gv_cVv 103 S (As := []) (rest := []) (c_X11_putHeights l X M M8 hc9) (hO_83 X) rfl (cwV 0 S.1.2.2.2.2 gX11_canSplit_X11_putHeights rfl rfl rfl (by decide +kernel) ⟨Nat.le_of_ble_eq_true rfl, Nat.le_of_ble_eq_true rfl⟩) rfl rfl (Nat.le_of_ble_eq_true rfl) dX11_canSplit_103 ?_
        refine gv_iload 106 S 4 dX11_canSplit_106 rfl ?_
        exact gv_zretG 108 S h dX11_canSplit_108
      · refine gv_aload_n 21 S 0 0 dX11_canSplit_21 rfl rfl ?_
        obtain ⟨M11, hc12, h⟩ := br_some h
        refine gv_cVv 22 S (As := []) (rest := []) (c_X11_goalsAsNow l X M M11 hc12) (hO_83 X) rfl (cwV 0 S.1.2.2.2.2 gX11_canSplit_X11_goalsAsNow rfl rfl rfl (by decide +kernel) ⟨Nat.le_of_ble_eq_true rfl, Nat.le_of_ble_eq_true rfl⟩) rfl rfl (Nat.le_of_ble_eq_true rfl) dX11_canSplit_22 ?_
        refine gv_iconst 25 S (0 : Int32) dX11_canSplit_25 (by decide) ?_
        refine gv_istore 26 S (lv' := [(6, .int (0 : Int32)), (0, .ref (X.2.2 83)), (1, .int v1), (2, .int v2), (3, .int v3), (4, .int v4), (5, .int v5)]) dX11_canSplit_26 (Nat.le_of_ble_eq_true rfl) rfl ?_
        exact gv_sub [1, 2, 3, 4, 6, 0] rfl (t_X11_canSplit_28 S (g_X11_canSplit_10 n) ih FU M11 v1 v2 v3 v5 (0 : Int32) h)
set_option maxHeartbeats 4000000 in
set_option maxRecDepth 100000 in
theorem c_X11_canSplit (l : Launch) (X : GE) (M : MM) (v1 : Int32) (v2 : Int32) (v3 : Int32) (r : Int32) (M' : MM) (h : f_X11_canSplit M v1 v2 v3 = some (r, M')) : CTi l yX11_canSplit wsX11_canSplit rm_X11_canSplit X [.ref (X.2.2 83), .int v1, .int v2, .int v3] M r M' := by
  refine ct_i (own := RX11) (by decide +kernel) rfl rfl (Nat.le_of_ble_eq_true rfl) (lv0 := [(0, .ref (X.2.2 83)), (1, .int v1), (2, .int v2), (3, .int v3)]) rfl ?_
  intro p e s m args below meth c S
  unfold f_X11_canSplit at h
  refine gv_aload_n 0 S 0 0 dX11_canSplit_0 rfl rfl ?_
  obtain ⟨M2, hc3, h⟩ := br_some h
  refine gv_cVv 1 S (As := []) (rest := []) (c_X11_keepHeights l X M M2 hc3) (hO_83 X) rfl (cwV 0 S.1.2.2.2.2 gX11_canSplit_X11_keepHeights rfl rfl rfl (by decide +kernel) ⟨Nat.le_of_ble_eq_true rfl, Nat.le_of_ble_eq_true rfl⟩) rfl rfl (Nat.le_of_ble_eq_true rfl) dX11_canSplit_1 ?_
  refine gv_iconst 4 S (1 : Int32) dX11_canSplit_4 (by decide) ?_
  refine gv_istore 5 S (lv' := [(4, .int (1 : Int32)), (0, .ref (X.2.2 83)), (1, .int v1), (2, .int v2), (3, .int v3)]) dX11_canSplit_5 (Nat.le_of_ble_eq_true rfl) rfl ?_
  refine gv_iconst 7 S (0 : Int32) dX11_canSplit_7 (by decide) ?_
  refine gv_istore 8 S (lv' := [(5, .int (0 : Int32)), (4, .int (1 : Int32)), (0, .ref (X.2.2 83)), (1, .int v1), (2, .int v2), (3, .int v3)]) dX11_canSplit_8 (Nat.le_of_ble_eq_true rfl) rfl ?_
  exact gv_sub [2, 3, 4, 5, 1, 0] rfl (t_X11_canSplit_10 S FU M2 v1 v2 v3 (1 : Int32) (0 : Int32) h)
