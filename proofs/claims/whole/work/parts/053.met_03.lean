theorem mi_X10_takeMoves_10 : ∀ w ∈ u_ws RX10 TX10 12, w ∈ wsX10_takeMoves := by decide +kernel
theorem mf_X10_takeMoves_32 : MF wsX10_takeMoves RX10 32 9 1 := ⟨RX10, TX10, 12, rfl, by decide, mi_X10_takeMoves_10, by decide +kernel⟩
theorem mi_X10_takeMoves_1 : ∀ w ∈ u_ws RX1 TX1 4, w ∈ wsX10_takeMoves := by decide +kernel
theorem mf_X10_takeMoves_117 : MF wsX10_takeMoves RX10 117 1 3 := ⟨RX1, TX1, 4, rfl, by decide, mi_X10_takeMoves_1, by decide +kernel⟩
theorem mf_X10_takeMoves_53 : MF wsX10_takeMoves RX10 53 9 6 := ⟨RX10, TX10, 12, rfl, by decide, mi_X10_takeMoves_10, by decide +kernel⟩
theorem mi_X10_takeMoves_2 : ∀ w ∈ u_ws RX2 TX2 3, w ∈ wsX10_takeMoves := by decide +kernel
theorem mp_X10_takeMoves_167 : MP wsX10_takeMoves RX10 167 2 2 .int := ⟨RX2, TX2, 3, tyX2, rfl, by decide, mi_X10_takeMoves_2, by decide +kernel, tyX2_ok, nmX2, rfl, by decide +kernel⟩
theorem mi_X10_takeMoves_7 : ∀ w ∈ u_ws RX7 TX7 4, w ∈ wsX10_takeMoves := by decide +kernel
theorem mf_X10_takeMoves_97 : MF wsX10_takeMoves RX10 97 7 0 := ⟨RX7, TX7, 4, rfl, by decide, mi_X10_takeMoves_7, by decide +kernel⟩
abbrev rm_X10_takeMoves : Room := { frames := 2, cells := 0, slots := 0, locals := 45 }
set_option maxHeartbeats 4000000 in
set_option maxRecDepth 100000 in
theorem t_X10_takeMoves_48 {p : Program} {l : Launch} {e : Env} {s : State} {m : MethodId} {args : Array Value} {below : List Frame} {meth : Method} {c : Code} {X : GE} {r : Int32} {M' : MM} (S : CX p s m args meth c cX10_takeMoves 9 wsX10_takeMoves RX10 (some .int) X) (k1 : Nat) (hk1 : isSh k1) : ∀ (n : Nat) (M : MM) (v3 : Int32) (v4 : Int32) (v6 : Int32) (h : g_X10_takeMoves_48 k1 n M v3 v4 v6 = some (r, M')), V p l e (headSpec wsX10_takeMoves rm_X10_takeMoves).room s m args below meth c 9 X (MQ below (gQi X r M') args s 0 0 (gA X)) M 48 [(0, .ref (X.2.2 0)), (1, .ref (X.2.2 k1)), (3, .int v3), (4, .int v4), (6, .int v6)] [] := by
  intro n
  induction n with
  | zero =>
    intro M v3 v4 v6 h
    rw [g_X10_takeMoves_48] at h
    cases h
  | succ n ih =>
    intro M v3 v4 v6 h
    rw [g_X10_takeMoves_48] at h
    refine gv_iload 48 S 4 dX10_takeMoves_48 rfl ?_
    refine gv_iload 50 S 3 dX10_takeMoves_50 rfl ?_
    refine gv_icmp_ge 52 S 125 h dX10_takeMoves_52 (by decide) (fun h => ?_) (fun h => ?_)
    · refine gv_iconst 125 S (0 : Int32) dX10_takeMoves_125 (by decide) ?_
      exact gv_iret 126 S h dX10_takeMoves_126
    · refine gv_aload_n 55 S 1 1 dX10_takeMoves_55 rfl rfl ?_
      refine gv_get 56 S (hF_Sh_cells hk1) mf_X10_takeMoves_97 dX10_takeMoves_56 ?_
      refine gv_iload_n 59 S 3 2 dX10_takeMoves_59 rfl rfl ?_
      refine gv_iconst 60 S (2 : Int32) dX10_takeMoves_60 (by decide) ?_
      refine gv_iload 61 S 4 dX10_takeMoves_61 rfl ?_
      refine gv_imul 63 S dX10_takeMoves_63 ?_
      refine gv_iadd 64 S dX10_takeMoves_64 ?_
      refine gv_iald 65 S h (hI_Sh_cells hk1) dX10_takeMoves_65 (fun h => ?_)
      refine gv_nmi h (fun x7 h => ?_)
      refine gv_istore 66 S (lv' := [(7, .int x7), (0, .ref (X.2.2 0)), (1, .ref (X.2.2 k1)), (3, .int v3), (4, .int v4), (6, .int v6)]) dX10_takeMoves_66 (Nat.le_of_ble_eq_true rfl) rfl ?_
      refine gv_aload_n 68 S 1 2 dX10_takeMoves_68 rfl rfl ?_
      refine gv_get 69 S (hF_Sh_cells hk1) mf_X10_takeMoves_97 dX10_takeMoves_69 ?_
      refine gv_iload_n 72 S 3 3 dX10_takeMoves_72 rfl rfl ?_
      refine gv_iconst 73 S (2 : Int32) dX10_takeMoves_73 (by decide) ?_
      refine gv_iload 74 S 5 dX10_takeMoves_74 rfl ?_
      refine gv_imul 76 S dX10_takeMoves_76 ?_
      refine gv_iadd 77 S dX10_takeMoves_77 ?_
      refine gv_iconst 78 S (1 : Int32) dX10_takeMoves_78 (by decide) ?_
      refine gv_iadd 79 S dX10_takeMoves_79 ?_
      refine gv_iald 80 S h (hI_Sh_cells hk1) dX10_takeMoves_80 (fun h => ?_)
      refine gv_nmi h (fun x8 h => ?_)
      refine gv_istore 81 S (lv' := [(8, .int x8), (7, .int x7), (0, .ref (X.2.2 0)), (1, .ref (X.2.2 k1)), (3, .int v3), (4, .int v4), (6, .int v6)]) dX10_takeMoves_81 (Nat.le_of_ble_eq_true rfl) rfl ?_
      refine gv_aload_n 83 S 0 2 dX10_takeMoves_83 rfl rfl ?_
      refine gv_get 84 S (hF_0_loft X) mf_X10_takeMoves_32 dX10_takeMoves_84 ?_
      refine gv_iload 87 S 1 dX10_takeMoves_87 rfl ?_
      obtain ⟨r9, hc10, h⟩ := br_some h
      refine gv_cVi 89 S (As := [.int x7]) (rest := []) (c_X1_has l X M x7 r9 hc10) (hO_20 X) rfl (cwV 1 S.1.2.2.2.2 gX10_takeMoves_X1_has rfl rfl rfl (by decide +kernel) ⟨Nat.le_of_ble_eq_true rfl, Nat.le_of_ble_eq_true rfl⟩) rfl rfl (Nat.le_of_ble_eq_true rfl) dX10_takeMoves_89 ?_
      refine gv_if_ne 92 S 97 h dX10_takeMoves_92 (by decide) (fun h => ?_) (fun h => ?_)
      · refine gv_iload 97 S 0 dX10_takeMoves_97 rfl ?_
        obtain ⟨r11, hc12, h⟩ := br_some h
        refine gv_cSi 99 S (As := [.int x8]) (rest := []) (c_X10_isHeight l X M x8 r11 hc12) (va_cwS 1 S.1.2.2.2.2 gX10_takeMoves_X10_isHeight rfl rfl rfl (by decide +kernel) ⟨Nat.le_of_ble_eq_true rfl, Nat.le_of_ble_eq_true rfl⟩) rfl rfl (Nat.le_of_ble_eq_true rfl) dX10_takeMoves_99 ?_
        refine gv_if_ne 102 S 108 h dX10_takeMoves_102 (by decide) (fun h => ?_) (fun h => ?_)
        · refine gv_aload_n 108 S 0 2 dX10_takeMoves_108 rfl rfl ?_
          refine gv_get 109 S (hF_0_moves X) mf_X10_takeMoves_53 dX10_takeMoves_109 ?_
          refine gv_iload 112 S 1 dX10_takeMoves_112 rfl ?_
          refine gv_iload 114 S 0 dX10_takeMoves_114 rfl ?_
          obtain ⟨M14, hc15, h⟩ := br_some h
          refine gv_cVv 116 S (As := [.int x7, .int x8]) (rest := []) (c_X2_add l X M x7 x8 M14 hc15) (hO_65 X) rfl (cwV 2 S.1.2.2.2.2 gX10_takeMoves_X2_add rfl rfl rfl (by decide +kernel) ⟨Nat.le_of_ble_eq_true rfl, Nat.le_of_ble_eq_true rfl⟩) rfl rfl (Nat.le_of_ble_eq_true rfl) dX10_takeMoves_116 ?_
          refine gv_iinc 119 S 6 (v6 + (1 : Int32)) (lv' := [(6, .int (v6 + (1 : Int32))), (8, .int x8), (7, .int x7), (0, .ref (X.2.2 0)), (1, .ref (X.2.2 k1)), (3, .int v3), (4, .int v4)]) dX10_takeMoves_119 rfl rfl (Nat.le_of_ble_eq_true rfl) rfl ?_
          refine gv_goto 122 S 48 dX10_takeMoves_122 (by decide) ?_
          exact gv_sub [3, 4, 5, 6, 0] rfl (ih M14 v3 v4 (v6 + (1 : Int32)) h)
        · refine gv_bipush 105 S (-2 : Int32) dX10_takeMoves_105 (by decide) ?_
          exact gv_iret 107 S h dX10_takeMoves_107
      · refine gv_iconst 95 S (-1 : Int32) dX10_takeMoves_95 (by decide) ?_
        exact gv_iret 96 S h dX10_takeMoves_96
set_option maxHeartbeats 4000000 in
set_option maxRecDepth 100000 in
theorem c_X10_takeMoves (l : Launch) (X : GE) (M : MM) (k1 : Nat) (v2 : Int32) (v3 : Int32) (v4 : Int32) (hk1 : isSh k1) (r : Int32) (M' : MM) (h : f_X10_takeMoves M k1 v2 v3 v4 = some (r, M')) : CTi l yX10_takeMoves wsX10_takeMoves rm_X10_takeMoves X [.ref (X.2.2 0), .ref (X.2.2 k1), .int v2, .int v3, .int v4] M r M' := by
  refine ct_i (own := RX10) (by decide +kernel) rfl rfl (Nat.le_of_ble_eq_true rfl) (lv0 := [(0, .ref (X.2.2 0)), (1, .ref (X.2.2 k1)), (2, .int v2), (3, .int v3), (4, .int v4)]) rfl ?_
  intro p e s m args below meth c S
  unfold f_X10_takeMoves at h
  refine gv_aload_n 0 S 1 1 dX10_takeMoves_0 rfl rfl ?_
  refine gv_iload_n 1 S 2 2 dX10_takeMoves_1 rfl rfl ?_
  refine gv_iload_n 2 S 3 3 dX10_takeMoves_2 rfl rfl ?_
  refine gv_iconst 3 S (2 : Int32) dX10_takeMoves_3 (by decide) ?_
  refine gv_iload 4 S 4 dX10_takeMoves_4 rfl ?_
  refine gv_imul 6 S dX10_takeMoves_6 ?_
  obtain ⟨r1, hc2, h⟩ := br_some h
  refine gv_cVi 7 S (As := [.int v2, .int v3, .int ((2 : Int32) * v4)]) (rest := []) (c_X7_faultOf l X M k1 v2 v3 ((2 : Int32) * v4) hk1 r1 hc2) (hO_Sh hk1) rfl (cwV 3 S.1.2.2.2.2 gX10_takeMoves_X7_faultOf rfl rfl rfl (by decide +kernel) ⟨Nat.le_of_ble_eq_true rfl, Nat.le_of_ble_eq_true rfl⟩) rfl rfl (Nat.le_of_ble_eq_true rfl) dX10_takeMoves_7 ?_
  refine gv_istore 10 S (lv' := [(5, .int r1), (0, .ref (X.2.2 0)), (1, .ref (X.2.2 k1)), (2, .int v2), (3, .int v3), (4, .int v4)]) dX10_takeMoves_10 (Nat.le_of_ble_eq_true rfl) rfl ?_
  refine gv_iload 12 S 0 dX10_takeMoves_12 rfl ?_
  refine gv_if_eq 14 S 24 h dX10_takeMoves_14 (by decide) (fun h => ?_) (fun h => ?_)
  · refine gv_aload_n 24 S 0 1 dX10_takeMoves_24 rfl rfl ?_
    refine gv_get 25 S (hF_0_loft X) mf_X10_takeMoves_32 dX10_takeMoves_25 ?_
    refine gv_get 28 S (hF_20_count X) mf_X10_takeMoves_117 dX10_takeMoves_28 ?_
    refine gv_if_ne 31 S 37 h dX10_takeMoves_31 (by decide) (fun h => ?_) (fun h => ?_)
    · refine gv_aload_n 37 S 0 1 dX10_takeMoves_37 rfl rfl ?_
      refine gv_get 38 S (hF_0_moves X) mf_X10_takeMoves_53 dX10_takeMoves_38 ?_
      refine gv_iconst 41 S (0 : Int32) dX10_takeMoves_41 (by decide) ?_
      refine gv_put 42 S h (hP_65_count X) mp_X10_takeMoves_167 rfl rfl dX10_takeMoves_42 (fun M3 h => ?_)
      refine gv_iconst 45 S (0 : Int32) dX10_takeMoves_45 (by decide) ?_
      refine gv_istore 46 S (lv' := [(6, .int (0 : Int32)), (5, .int r1), (0, .ref (X.2.2 0)), (1, .ref (X.2.2 k1)), (2, .int v2), (3, .int v3), (4, .int v4)]) dX10_takeMoves_46 (Nat.le_of_ble_eq_true rfl) rfl ?_
      exact gv_sub [2, 3, 5, 6, 0] rfl (t_X10_takeMoves_48 S k1 hk1 FU M3 v3 v4 (0 : Int32) h)
    · refine gv_bipush 34 S (-3 : Int32) dX10_takeMoves_34 (by decide) ?_
      exact gv_iret 36 S h dX10_takeMoves_36
  · refine gv_aload_n 17 S 0 1 dX10_takeMoves_17 rfl rfl ?_
    refine gv_iload 18 S 0 dX10_takeMoves_18 rfl ?_
    obtain ⟨r4, M5, hc6, h⟩ := bi_some h
    refine gv_cVi 20 S (As := [.int r1]) (rest := []) (c_X10_faulted l X M r1 r4 M5 hc6) (hO_0 X) rfl (cwV 1 S.1.2.2.2.2 gX10_takeMoves_X10_faulted rfl rfl rfl (by decide +kernel) ⟨Nat.le_of_ble_eq_true rfl, Nat.le_of_ble_eq_true rfl⟩) rfl rfl (Nat.le_of_ble_eq_true rfl) dX10_takeMoves_20 ?_
    exact gv_iret 23 S h dX10_takeMoves_23
theorem mi_X10_cue_10 : ∀ w ∈ u_ws RX10 TX10 12, w ∈ wsX10_cue := by decide +kernel
theorem mp_X10_cue_78 : MP wsX10_cue RX10 78 9 11 .int := ⟨RX10, TX10, 12, tyX10, rfl, by decide, mi_X10_cue_10, by decide +kernel, tyX10_ok, nmX10, rfl, by decide +kernel⟩
theorem mf_X10_cue_13 : MF wsX10_cue RX10 13 9 0 := ⟨RX10, TX10, 12, rfl, by decide, mi_X10_cue_10, by decide +kernel⟩
theorem mf_X10_cue_53 : MF wsX10_cue RX10 53 9 6 := ⟨RX10, TX10, 12, rfl, by decide, mi_X10_cue_10, by decide +kernel⟩
abbrev rm_X10_cue : Room := { frames := 5, cells := 0, slots := 0, locals := 104 }
set_option maxHeartbeats 4000000 in
set_option maxRecDepth 100000 in
theorem c_X10_cue (l : Launch) (X : GE) (M : MM) (v1 : Int32) (v2 : Int32) (v3 : Int32) (v4 : Int32) (r : Int32) (M' : MM) (h : f_X10_cue M v1 v2 v3 v4 = some (r, M')) : CTi l yX10_cue wsX10_cue rm_X10_cue X [.ref (X.2.2 0), .int v1, .int v2, .int v3, .int v4] M r M' := by
  refine ct_i (own := RX10) (by decide +kernel) rfl rfl (Nat.le_of_ble_eq_true rfl) (lv0 := [(0, .ref (X.2.2 0)), (1, .int v1), (2, .int v2), (3, .int v3), (4, .int v4)]) rfl ?_
  intro p e s m args below meth c S
  unfold f_X10_cue at h
  refine gv_aload_n 0 S 0 0 dX10_cue_0 rfl rfl ?_
  refine gv_iconst 1 S (0 : Int32) dX10_cue_1 (by decide) ?_
  refine gv_put 2 S h (hP_0_lastFault X) mp_X10_cue_78 rfl rfl dX10_cue_2 (fun M1 h => ?_)
  refine gv_iload_n 5 S 1 1 dX10_cue_5 rfl rfl ?_
  obtain ⟨r2, hc3, h⟩ := br_some h
  refine gv_cSi 6 S (As := [.int v1]) (rest := []) (c_X10_isSheet l X M1 v1 r2 hc3) (va_cwS 1 S.1.2.2.2.2 gX10_cue_X10_isSheet rfl rfl rfl (by decide +kernel) ⟨Nat.le_of_ble_eq_true rfl, Nat.le_of_ble_eq_true rfl⟩) rfl rfl (Nat.le_of_ble_eq_true rfl) dX10_cue_6 ?_
  refine gv_if_ne 9 S 14 h dX10_cue_9 (by decide) (fun h => ?_) (fun h => ?_)
  · refine gv_iload_n 14 S 2 2 dX10_cue_14 rfl rfl ?_
    obtain ⟨r4, hc5, h⟩ := br_some h
    refine gv_cSi 15 S (As := [.int v2]) (rest := []) (c_X10_isLane l X M1 v2 r4 hc5) (va_cwS 1 S.1.2.2.2.2 gX10_cue_X10_isLane rfl rfl rfl (by decide +kernel) ⟨Nat.le_of_ble_eq_true rfl, Nat.le_of_ble_eq_true rfl⟩) rfl rfl (Nat.le_of_ble_eq_true rfl) dX10_cue_15 ?_
    refine gv_if_eq 18 S 32 h dX10_cue_18 (by decide) (fun h => ?_) (fun h => ?_)
    · refine gv_bipush 32 S (-2 : Int32) dX10_cue_32 (by decide) ?_
      exact gv_iret 34 S h dX10_cue_34
    · refine gv_iload 21 S 4 dX10_cue_21 rfl ?_
      refine gv_iconst 23 S (0 : Int32) dX10_cue_23 (by decide) ?_
      refine gv_bipush 24 S (8 : Int32) dX10_cue_24 (by decide) ?_
      obtain ⟨r6, hc7, h⟩ := br_some h
      refine gv_cSi 26 S (As := [.int v4, .int (0 : Int32), .int (8 : Int32)]) (rest := []) (c_X10_within l X M1 v4 (0 : Int32) (8 : Int32) r6 hc7) (va_cwS 3 S.1.2.2.2.2 gX10_cue_X10_within rfl rfl rfl (by decide +kernel) ⟨Nat.le_of_ble_eq_true rfl, Nat.le_of_ble_eq_true rfl⟩) rfl rfl (Nat.le_of_ble_eq_true rfl) dX10_cue_26 ?_
      refine gv_if_ne 29 S 35 h dX10_cue_29 (by decide) (fun h => ?_) (fun h => ?_)
      · refine gv_aload_n 35 S 0 0 dX10_cue_35 rfl rfl ?_
        refine gv_aload_n 36 S 0 0 dX10_cue_36 rfl rfl ?_
        refine gv_get 37 S (hF_0_sheets X) mf_X10_cue_13 dX10_cue_37 ?_
        refine gv_iload_n 40 S 1 1 dX10_cue_40 rfl rfl ?_
        refine gv_aald 41 S h (hR_1 X) rfl dX10_cue_41 (fun hq8 h => ?_)
        refine gv_iload_n 42 S 2 2 dX10_cue_42 rfl rfl ?_
        refine gv_iload_n 43 S 3 3 dX10_cue_43 rfl rfl ?_
        refine gv_iload 44 S 4 dX10_cue_44 rfl ?_
        obtain ⟨r9, M10, hc11, h⟩ := bi_some h
        refine gv_cVi 46 S (As := [.ref (X.2.2 (2 + 2 * v1.toNatClampNeg)), .int v2, .int v3, .int v4]) (rest := []) (c_X10_takeMoves l X M1 (2 + 2 * v1.toNatClampNeg) v2 v3 v4 (isSh_at hq8) r9 M10 hc11) (hO_0 X) rfl (cwV 4 S.1.2.2.2.2 gX10_cue_X10_takeMoves rfl rfl rfl (by decide +kernel) ⟨Nat.le_of_ble_eq_true rfl, Nat.le_of_ble_eq_true rfl⟩) rfl rfl (Nat.le_of_ble_eq_true rfl) dX10_cue_46 ?_
        refine gv_istore 49 S (lv' := [(5, .int r9), (0, .ref (X.2.2 0)), (1, .int v1), (2, .int v2), (3, .int v3), (4, .int v4)]) dX10_cue_49 (Nat.le_of_ble_eq_true rfl) rfl ?_
        refine gv_iload 51 S 0 dX10_cue_51 rfl ?_
        refine gv_if_eq 53 S 59 h dX10_cue_53 (by decide) (fun h => ?_) (fun h => ?_)
        · refine gv_aload_n 59 S 0 1 dX10_cue_59 rfl rfl ?_
          refine gv_get 60 S (hF_0_moves X) mf_X10_cue_53 dX10_cue_60 ?_
          obtain ⟨r12, hc13, h⟩ := br_some h
          refine gv_cVi 63 S (As := []) (rest := []) (c_X2_repeatBatten l X M10 r12 hc13) (hO_65 X) rfl (cwV 0 S.1.2.2.2.2 gX10_cue_X2_repeatBatten rfl rfl rfl (by decide +kernel) ⟨Nat.le_of_ble_eq_true rfl, Nat.le_of_ble_eq_true rfl⟩) rfl rfl (Nat.le_of_ble_eq_true rfl) dX10_cue_63 ?_
          refine gv_if_eq 66 S 74 h dX10_cue_66 (by decide) (fun h => ?_) (fun h => ?_)
          · refine gv_aload_n 74 S 0 1 dX10_cue_74 rfl rfl ?_
            obtain ⟨r14, M15, hc16, h⟩ := bi_some h
            refine gv_cVi 75 S (As := []) (rest := []) (c_X10_doMoves l X M10 r14 M15 hc16) (hO_0 X) rfl (cwV 0 S.1.2.2.2.2 gX10_cue_X10_doMoves rfl rfl rfl (by decide +kernel) ⟨Nat.le_of_ble_eq_true rfl, Nat.le_of_ble_eq_true rfl⟩) rfl rfl (Nat.le_of_ble_eq_true rfl) dX10_cue_75 ?_
            exact gv_iret 78 S h dX10_cue_78
          · refine gv_bipush 69 S (-3 : Int32) dX10_cue_69 (by decide) ?_
            refine gv_goto 71 S 78 dX10_cue_71 (by decide) ?_
            exact gv_iret 78 S h dX10_cue_78
        · refine gv_iload 56 S 0 dX10_cue_56 rfl ?_
          exact gv_iret 58 S h dX10_cue_58
      · refine gv_bipush 32 S (-2 : Int32) dX10_cue_32 (by decide) ?_
        exact gv_iret 34 S h dX10_cue_34
  · refine gv_iconst 12 S (-1 : Int32) dX10_cue_12 (by decide) ?_
    exact gv_iret 13 S h dX10_cue_13
abbrev rm_X10_isDigit : Room := { frames := 1, cells := 0, slots := 0, locals := 22 }
set_option maxHeartbeats 4000000 in
set_option maxRecDepth 100000 in
theorem c_X10_isDigit (l : Launch) (X : GE) (M : MM) (v0 : Int32) (r : Int32) (h : f_X10_isDigit M v0 = some r) : CTi l yX10_isDigit wsX10_isDigit rm_X10_isDigit X [.int v0] M r M := by
  refine ct_i (own := RX10) (by decide +kernel) rfl rfl (Nat.le_of_ble_eq_true rfl) (lv0 := [(0, .int v0)]) rfl ?_
  intro p e s m args below meth c S
  unfold f_X10_isDigit at h
  refine gv_iload_n 0 S 0 0 dX10_isDigit_0 rfl rfl ?_
  refine gv_iconst 1 S (0 : Int32) dX10_isDigit_1 (by decide) ?_
  refine gv_bipush 2 S (9 : Int32) dX10_isDigit_2 (by decide) ?_
  obtain ⟨r1, hc2, h⟩ := br_some h
  refine gv_cSi 4 S (As := [.int v0, .int (0 : Int32), .int (9 : Int32)]) (rest := []) (c_X10_within l X M v0 (0 : Int32) (9 : Int32) r1 hc2) (va_cwS 3 S.1.2.2.2.2 gX10_isDigit_X10_within rfl rfl rfl (by decide +kernel) ⟨Nat.le_of_ble_eq_true rfl, Nat.le_of_ble_eq_true rfl⟩) rfl rfl (Nat.le_of_ble_eq_true rfl) dX10_isDigit_4 ?_
  exact gv_zretRG 7 S h dX10_isDigit_7
theorem mi_X10_hang_10 : ∀ w ∈ u_ws RX10 TX10 12, w ∈ wsX10_hang := by decide +kernel
theorem mf_X10_hang_32 : MF wsX10_hang RX10 32 9 1 := ⟨RX10, TX10, 12, rfl, by decide, mi_X10_hang_10, by decide +kernel⟩
theorem mi_X10_hang_1 : ∀ w ∈ u_ws RX1 TX1 4, w ∈ wsX10_hang := by decide +kernel
theorem mf_X10_hang_124 : MF wsX10_hang RX10 124 1 2 := ⟨RX1, TX1, 4, rfl, by decide, mi_X10_hang_1, by decide +kernel⟩
theorem mi_X10_hang_6 : ∀ w ∈ u_ws RX6 TX6 6, w ∈ wsX10_hang := by decide +kernel
theorem mf_X10_hang_134 : MF wsX10_hang RX10 134 6 2 := ⟨RX6, TX6, 6, rfl, by decide, mi_X10_hang_6, by decide +kernel⟩
theorem mf_X10_hang_39 : MF wsX10_hang RX10 39 9 2 := ⟨RX10, TX10, 12, rfl, by decide, mi_X10_hang_10, by decide +kernel⟩
theorem mf_X10_hang_128 : MF wsX10_hang RX10 128 6 0 := ⟨RX6, TX6, 6, rfl, by decide, mi_X10_hang_6, by decide +kernel⟩
abbrev rm_X10_hang : Room := { frames := 3, cells := 0, slots := 0, locals := 60 }
set_option maxHeartbeats 4000000 in
set_option maxRecDepth 100000 in
theorem c_X10_hang (l : Launch) (X : GE) (M : MM) (v1 : Int32) (v2 : Int32) (r : Int32) (M' : MM) (h : f_X10_hang M v1 v2 = some (r, M')) : CTi l yX10_hang wsX10_hang rm_X10_hang X [.ref (X.2.2 0), .int v1, .int v2] M r M' := by
  refine ct_i (own := RX10) (by decide +kernel) rfl rfl (Nat.le_of_ble_eq_true rfl) (lv0 := [(0, .ref (X.2.2 0)), (1, .int v1), (2, .int v2)]) rfl ?_
  intro p e s m args below meth c S
  unfold f_X10_hang at h
  refine gv_aload_n 0 S 0 0 dX10_hang_0 rfl rfl ?_
  refine gv_get 1 S (hF_0_loft X) mf_X10_hang_32 dX10_hang_1 ?_
  refine gv_iload_n 4 S 1 1 dX10_hang_4 rfl rfl ?_
  obtain ⟨r1, hc2, h⟩ := br_some h
  refine gv_cVi 5 S (As := [.int v1]) (rest := []) (c_X1_has l X M v1 r1 hc2) (hO_20 X) rfl (cwV 1 S.1.2.2.2.2 gX10_hang_X1_has rfl rfl rfl (by decide +kernel) ⟨Nat.le_of_ble_eq_true rfl, Nat.le_of_ble_eq_true rfl⟩) rfl rfl (Nat.le_of_ble_eq_true rfl) dX10_hang_5 ?_
  refine gv_if_ne 8 S 13 h dX10_hang_8 (by decide) (fun h => ?_) (fun h => ?_)
  · refine gv_iload_n 13 S 2 2 dX10_hang_13 rfl rfl ?_
    obtain ⟨r3, hc4, h⟩ := br_some h
    refine gv_cSi 14 S (As := [.int v2]) (rest := []) (c_X10_isDigit l X M v2 r3 hc4) (va_cwS 1 S.1.2.2.2.2 gX10_hang_X10_isDigit rfl rfl rfl (by decide +kernel) ⟨Nat.le_of_ble_eq_true rfl, Nat.le_of_ble_eq_true rfl⟩) rfl rfl (Nat.le_of_ble_eq_true rfl) dX10_hang_14 ?_
    refine gv_if_ne 17 S 23 h dX10_hang_17 (by decide) (fun h => ?_) (fun h => ?_)
    · refine gv_aload_n 23 S 0 0 dX10_hang_23 rfl rfl ?_
      refine gv_get 24 S (hF_0_loft X) mf_X10_hang_32 dX10_hang_24 ?_
      refine gv_get 27 S (hF_20_now X) mf_X10_hang_124 dX10_hang_27 ?_
      refine gv_get 30 S (hF_23_height X) mf_X10_hang_134 dX10_hang_30 ?_
      refine gv_iload_n 33 S 1 1 dX10_hang_33 rfl rfl ?_
      refine gv_iald 34 S h (hI_26 X) dX10_hang_34 (fun h => ?_)
      refine gv_if_eq 35 S 41 h dX10_hang_35 (by decide) (fun h => ?_) (fun h => ?_)
      · refine gv_aload_n 41 S 0 0 dX10_hang_41 rfl rfl ?_
        refine gv_get 42 S (hF_0_past X) mf_X10_hang_39 dX10_hang_42 ?_
        refine gv_aload_n 45 S 0 0 dX10_hang_45 rfl rfl ?_
        refine gv_get 46 S (hF_0_loft X) mf_X10_hang_32 dX10_hang_46 ?_
        refine gv_get 49 S (hF_20_now X) mf_X10_hang_124 dX10_hang_49 ?_
        obtain ⟨M6, hc7, h⟩ := br_some h
        refine gv_cVv 52 S (As := [.ref (X.2.2 23)]) (rest := []) (c_X3_remember l X M M6 hc7) (hO_27 X) rfl (cwV 1 S.1.2.2.2.2 gX10_hang_X3_remember rfl rfl rfl (by decide +kernel) ⟨Nat.le_of_ble_eq_true rfl, Nat.le_of_ble_eq_true rfl⟩) rfl rfl (Nat.le_of_ble_eq_true rfl) dX10_hang_52 ?_
        refine gv_aload_n 55 S 0 0 dX10_hang_55 rfl rfl ?_
        refine gv_get 56 S (hF_0_loft X) mf_X10_hang_32 dX10_hang_56 ?_
        refine gv_get 59 S (hF_20_now X) mf_X10_hang_124 dX10_hang_59 ?_
        refine gv_get 62 S (hF_23_load X) mf_X10_hang_128 dX10_hang_62 ?_
        refine gv_iload_n 65 S 1 1 dX10_hang_65 rfl rfl ?_
        refine gv_iload_n 66 S 2 2 dX10_hang_66 rfl rfl ?_
        refine gv_iast 67 S h (hI_24 X) dX10_hang_67 (fun M8 h => ?_)
        refine gv_aload_n 68 S 0 0 dX10_hang_68 rfl rfl ?_
        refine gv_get 69 S (hF_0_loft X) mf_X10_hang_32 dX10_hang_69 ?_
        refine gv_iload_n 72 S 1 1 dX10_hang_72 rfl rfl ?_
        obtain ⟨r9, M10, hc11, h⟩ := bi_some h
        refine gv_cVi 73 S (As := [.int v1]) (rest := []) (c_X1_runsAway l X M8 v1 r9 M10 hc11) (hO_20 X) rfl (cwV 1 S.1.2.2.2.2 gX10_hang_X1_runsAway rfl rfl rfl (by decide +kernel) ⟨Nat.le_of_ble_eq_true rfl, Nat.le_of_ble_eq_true rfl⟩) rfl rfl (Nat.le_of_ble_eq_true rfl) dX10_hang_73 ?_
        exact gv_iret 76 S h dX10_hang_76
      · refine gv_bipush 38 S (-3 : Int32) dX10_hang_38 (by decide) ?_
        exact gv_iret 40 S h dX10_hang_40
    · refine gv_bipush 20 S (-2 : Int32) dX10_hang_20 (by decide) ?_
      exact gv_iret 22 S h dX10_hang_22
  · refine gv_iconst 11 S (-1 : Int32) dX10_hang_11 (by decide) ?_
    exact gv_iret 12 S h dX10_hang_12
theorem mi_X10_brick_10 : ∀ w ∈ u_ws RX10 TX10 12, w ∈ wsX10_brick := by decide +kernel
theorem mf_X10_brick_32 : MF wsX10_brick RX10 32 9 1 := ⟨RX10, TX10, 12, rfl, by decide, mi_X10_brick_10, by decide +kernel⟩
theorem mi_X10_brick_1 : ∀ w ∈ u_ws RX1 TX1 4, w ∈ wsX10_brick := by decide +kernel
theorem mf_X10_brick_124 : MF wsX10_brick RX10 124 1 2 := ⟨RX1, TX1, 4, rfl, by decide, mi_X10_brick_1, by decide +kernel⟩
theorem mi_X10_brick_6 : ∀ w ∈ u_ws RX6 TX6 6, w ∈ wsX10_brick := by decide +kernel
theorem mf_X10_brick_131 : MF wsX10_brick RX10 131 6 1 := ⟨RX6, TX6, 6, rfl, by decide, mi_X10_brick_6, by decide +kernel⟩
theorem mf_X10_brick_134 : MF wsX10_brick RX10 134 6 2 := ⟨RX6, TX6, 6, rfl, by decide, mi_X10_brick_6, by decide +kernel⟩
theorem mf_X10_brick_194 : MF wsX10_brick RX10 194 6 3 := ⟨RX6, TX6, 6, rfl, by decide, mi_X10_brick_6, by decide +kernel⟩
theorem mf_X10_brick_39 : MF wsX10_brick RX10 39 9 2 := ⟨RX10, TX10, 12, rfl, by decide, mi_X10_brick_10, by decide +kernel⟩
theorem mp_X10_brick_194 : MP wsX10_brick RX10 194 6 3 .int := ⟨RX6, TX6, 6, tyX6, rfl, by decide, mi_X10_brick_6, by decide +kernel, tyX6_ok, nmX6, rfl, by decide +kernel⟩
abbrev rm_X10_brick : Room := { frames := 3, cells := 0, slots := 0, locals := 60 }
set_option maxHeartbeats 4000000 in
set_option maxRecDepth 100000 in
theorem c_X10_brick (l : Launch) (X : GE) (M : MM) (v1 : Int32) (v2 : Int32) (r : Int32) (M' : MM) (h : f_X10_brick M v1 v2 = some (r, M')) : CTi l yX10_brick wsX10_brick rm_X10_brick X [.ref (X.2.2 0), .int v1, .int v2] M r M' := by
  refine ct_i (own := RX10) (by decide +kernel) rfl rfl (Nat.le_of_ble_eq_true rfl) (lv0 := [(0, .ref (X.2.2 0)), (1, .int v1), (2, .int v2)]) rfl ?_
  intro p e s m args below meth c S
  unfold f_X10_brick at h
  refine gv_aload_n 0 S 0 0 dX10_brick_0 rfl rfl ?_
  refine gv_get 1 S (hF_0_loft X) mf_X10_brick_32 dX10_brick_1 ?_
  refine gv_iload_n 4 S 1 1 dX10_brick_4 rfl rfl ?_
  obtain ⟨r1, hc2, h⟩ := br_some h
  refine gv_cVi 5 S (As := [.int v1]) (rest := []) (c_X1_has l X M v1 r1 hc2) (hO_20 X) rfl (cwV 1 S.1.2.2.2.2 gX10_brick_X1_has rfl rfl rfl (by decide +kernel) ⟨Nat.le_of_ble_eq_true rfl, Nat.le_of_ble_eq_true rfl⟩) rfl rfl (Nat.le_of_ble_eq_true rfl) dX10_brick_5 ?_
  refine gv_if_ne 8 S 13 h dX10_brick_8 (by decide) (fun h => ?_) (fun h => ?_)
  · refine gv_iload_n 13 S 2 2 dX10_brick_13 rfl rfl ?_
    obtain ⟨r3, hc4, h⟩ := br_some h
    refine gv_cSi 14 S (As := [.int v2]) (rest := []) (c_X10_isDigit l X M v2 r3 hc4) (va_cwS 1 S.1.2.2.2.2 gX10_brick_X10_isDigit rfl rfl rfl (by decide +kernel) ⟨Nat.le_of_ble_eq_true rfl, Nat.le_of_ble_eq_true rfl⟩) rfl rfl (Nat.le_of_ble_eq_true rfl) dX10_brick_14 ?_
    refine gv_if_ne 17 S 23 h dX10_brick_17 (by decide) (fun h => ?_) (fun h => ?_)
    · refine gv_iload_n 23 S 2 2 dX10_brick_23 rfl rfl ?_
      refine gv_aload_n 24 S 0 0 dX10_brick_24 rfl rfl ?_
      refine gv_get 25 S (hF_0_loft X) mf_X10_brick_32 dX10_brick_25 ?_
      refine gv_get 28 S (hF_20_now X) mf_X10_brick_124 dX10_brick_28 ?_
      refine gv_get 31 S (hF_23_bricks X) mf_X10_brick_131 dX10_brick_31 ?_
      refine gv_iload_n 34 S 1 1 dX10_brick_34 rfl rfl ?_
      refine gv_iald 35 S h (hI_25 X) dX10_brick_35 (fun h => ?_)
      refine gv_isub 36 S dX10_brick_36 ?_
      refine gv_nmi h (fun x5 h => ?_)
      refine gv_istore_n 37 S 3 (lv' := [(3, .int x5), (0, .ref (X.2.2 0)), (1, .int v1), (2, .int v2)]) dX10_brick_37 rfl (Nat.le_of_ble_eq_true rfl) rfl ?_
      refine gv_aload_n 38 S 0 1 dX10_brick_38 rfl rfl ?_
      refine gv_get 39 S (hF_0_loft X) mf_X10_brick_32 dX10_brick_39 ?_
      refine gv_get 42 S (hF_20_now X) mf_X10_brick_124 dX10_brick_42 ?_
      refine gv_get 45 S (hF_23_height X) mf_X10_brick_134 dX10_brick_45 ?_
      refine gv_iload_n 48 S 1 2 dX10_brick_48 rfl rfl ?_
      refine gv_iald 49 S h (hI_26 X) dX10_brick_49 (fun h => ?_)
      refine gv_if_ne 50 S 67 h dX10_brick_50 (by decide) (fun h => ?_) (fun h => ?_)
      · refine gv_bipush 67 S (-3 : Int32) dX10_brick_67 (by decide) ?_
        exact gv_iret 69 S h dX10_brick_69
      · refine gv_iload_n 53 S 3 0 dX10_brick_53 rfl rfl ?_
        refine gv_aload_n 54 S 0 1 dX10_brick_54 rfl rfl ?_
        refine gv_get 55 S (hF_0_loft X) mf_X10_brick_32 dX10_brick_55 ?_
        refine gv_get 58 S (hF_20_now X) mf_X10_brick_124 dX10_brick_58 ?_
        refine gv_get 61 S (hF_23_stock X) mf_X10_brick_194 dX10_brick_61 ?_
        refine gv_icmp_le 64 S 70 h dX10_brick_64 (by decide) (fun h => ?_) (fun h => ?_)
        · refine gv_aload_n 70 S 0 1 dX10_brick_70 rfl rfl ?_
          refine gv_get 71 S (hF_0_past X) mf_X10_brick_39 dX10_brick_71 ?_
          refine gv_aload_n 74 S 0 1 dX10_brick_74 rfl rfl ?_
          refine gv_get 75 S (hF_0_loft X) mf_X10_brick_32 dX10_brick_75 ?_
          refine gv_get 78 S (hF_20_now X) mf_X10_brick_124 dX10_brick_78 ?_
          obtain ⟨M7, hc8, h⟩ := br_some h
          refine gv_cVv 81 S (As := [.ref (X.2.2 23)]) (rest := []) (c_X3_remember l X M M7 hc8) (hO_27 X) rfl (cwV 1 S.1.2.2.2.2 gX10_brick_X3_remember rfl rfl rfl (by decide +kernel) ⟨Nat.le_of_ble_eq_true rfl, Nat.le_of_ble_eq_true rfl⟩) rfl rfl (Nat.le_of_ble_eq_true rfl) dX10_brick_81 ?_
          refine gv_aload_n 84 S 0 1 dX10_brick_84 rfl rfl ?_
          refine gv_get 85 S (hF_0_loft X) mf_X10_brick_32 dX10_brick_85 ?_
          refine gv_get 88 S (hF_20_now X) mf_X10_brick_124 dX10_brick_88 ?_
          refine gv_get 91 S (hF_23_bricks X) mf_X10_brick_131 dX10_brick_91 ?_
          refine gv_iload_n 94 S 1 2 dX10_brick_94 rfl rfl ?_
          refine gv_iload_n 95 S 2 3 dX10_brick_95 rfl rfl ?_
          refine gv_iast 96 S h (hI_25 X) dX10_brick_96 (fun M9 h => ?_)
          refine gv_aload_n 97 S 0 1 dX10_brick_97 rfl rfl ?_
          refine gv_get 98 S (hF_0_loft X) mf_X10_brick_32 dX10_brick_98 ?_
          refine gv_get 101 S (hF_20_now X) mf_X10_brick_124 dX10_brick_101 ?_
          refine gv_dup 104 S dX10_brick_104 rfl ?_
          refine gv_get 105 S (hF_23_stock X) mf_X10_brick_194 dX10_brick_105 ?_
          refine gv_iload_n 108 S 3 0 dX10_brick_108 rfl rfl ?_
          refine gv_isub 109 S dX10_brick_109 ?_
          refine gv_put 110 S h (hP_23_stock X) mp_X10_brick_194 rfl rfl dX10_brick_110 (fun M10 h => ?_)
          refine gv_aload_n 113 S 0 1 dX10_brick_113 rfl rfl ?_
          refine gv_get 114 S (hF_0_loft X) mf_X10_brick_32 dX10_brick_114 ?_
          refine gv_iload_n 117 S 1 2 dX10_brick_117 rfl rfl ?_
          obtain ⟨r11, M12, hc13, h⟩ := bi_some h
          refine gv_cVi 118 S (As := [.int v1]) (rest := []) (c_X1_runsAway l X M10 v1 r11 M12 hc13) (hO_20 X) rfl (cwV 1 S.1.2.2.2.2 gX10_brick_X1_runsAway rfl rfl rfl (by decide +kernel) ⟨Nat.le_of_ble_eq_true rfl, Nat.le_of_ble_eq_true rfl⟩) rfl rfl (Nat.le_of_ble_eq_true rfl) dX10_brick_118 ?_
          exact gv_iret 121 S h dX10_brick_121
        · refine gv_bipush 67 S (-3 : Int32) dX10_brick_67 (by decide) ?_
          exact gv_iret 69 S h dX10_brick_69
    · refine gv_bipush 20 S (-2 : Int32) dX10_brick_20 (by decide) ?_
      exact gv_iret 22 S h dX10_brick_22
  · refine gv_iconst 11 S (-1 : Int32) dX10_brick_11 (by decide) ?_
    exact gv_iret 12 S h dX10_brick_12
theorem mi_X10_undo_10 : ∀ w ∈ u_ws RX10 TX10 12, w ∈ wsX10_undo := by decide +kernel
theorem mf_X10_undo_39 : MF wsX10_undo RX10 39 9 2 := ⟨RX10, TX10, 12, rfl, by decide, mi_X10_undo_10, by decide +kernel⟩
theorem mi_X10_undo_3 : ∀ w ∈ u_ws RX3 TX3 3, w ∈ wsX10_undo := by decide +kernel
theorem mf_X10_undo_197 : MF wsX10_undo RX10 197 3 1 := ⟨RX3, TX3, 3, rfl, by decide, mi_X10_undo_3, by decide +kernel⟩
theorem mf_X10_undo_32 : MF wsX10_undo RX10 32 9 1 := ⟨RX10, TX10, 12, rfl, by decide, mi_X10_undo_10, by decide +kernel⟩
theorem mi_X10_undo_1 : ∀ w ∈ u_ws RX1 TX1 4, w ∈ wsX10_undo := by decide +kernel
theorem mf_X10_undo_124 : MF wsX10_undo RX10 124 1 2 := ⟨RX1, TX1, 4, rfl, by decide, mi_X10_undo_1, by decide +kernel⟩
abbrev rm_X10_undo : Room := { frames := 3, cells := 0, slots := 0, locals := 60 }
set_option maxHeartbeats 4000000 in
set_option maxRecDepth 100000 in
theorem c_X10_undo (l : Launch) (X : GE) (M : MM) (r : Int32) (M' : MM) (h : f_X10_undo M = some (r, M')) : CTi l yX10_undo wsX10_undo rm_X10_undo X [.ref (X.2.2 0)] M r M' := by
  refine ct_i (own := RX10) (by decide +kernel) rfl rfl (Nat.le_of_ble_eq_true rfl) (lv0 := [(0, .ref (X.2.2 0))]) rfl ?_
  intro p e s m args below meth c S
  unfold f_X10_undo at h
  refine gv_aload_n 0 S 0 0 dX10_undo_0 rfl rfl ?_
  refine gv_get 1 S (hF_0_past X) mf_X10_undo_39 dX10_undo_1 ?_
  refine gv_get 4 S (hF_27_known X) mf_X10_undo_197 dX10_undo_4 ?_
  refine gv_if_ne 7 S 13 h dX10_undo_7 (by decide) (fun h => ?_) (fun h => ?_)
  · refine gv_aload_n 13 S 0 0 dX10_undo_13 rfl rfl ?_
    refine gv_get 14 S (hF_0_past X) mf_X10_undo_39 dX10_undo_14 ?_
    refine gv_aload_n 17 S 0 0 dX10_undo_17 rfl rfl ?_
    refine gv_get 18 S (hF_0_loft X) mf_X10_undo_32 dX10_undo_18 ?_
    refine gv_get 21 S (hF_20_now X) mf_X10_undo_124 dX10_undo_21 ?_
    obtain ⟨M2, hc3, h⟩ := br_some h
    refine gv_cVv 24 S (As := [.ref (X.2.2 23)]) (rest := []) (c_X3_bringBack l X M M2 hc3) (hO_27 X) rfl (cwV 1 S.1.2.2.2.2 gX10_undo_X3_bringBack rfl rfl rfl (by decide +kernel) ⟨Nat.le_of_ble_eq_true rfl, Nat.le_of_ble_eq_true rfl⟩) rfl rfl (Nat.le_of_ble_eq_true rfl) dX10_undo_24 ?_
    refine gv_aload_n 27 S 0 0 dX10_undo_27 rfl rfl ?_
    refine gv_get 28 S (hF_0_past X) mf_X10_undo_39 dX10_undo_28 ?_
    refine gv_get 31 S (hF_27_known X) mf_X10_undo_197 dX10_undo_31 ?_
    exact gv_iret 34 S h dX10_undo_34
  · refine gv_bipush 10 S (-3 : Int32) dX10_undo_10 (by decide) ?_
    exact gv_iret 12 S h dX10_undo_12
abbrev rm_X10_isImage : Room := { frames := 1, cells := 0, slots := 0, locals := 22 }
set_option maxHeartbeats 4000000 in
set_option maxRecDepth 100000 in
theorem c_X10_isImage (l : Launch) (X : GE) (M : MM) (v0 : Int32) (r : Int32) (h : f_X10_isImage M v0 = some r) : CTi l yX10_isImage wsX10_isImage rm_X10_isImage X [.int v0] M r M := by
  refine ct_i (own := RX10) (by decide +kernel) rfl rfl (Nat.le_of_ble_eq_true rfl) (lv0 := [(0, .int v0)]) rfl ?_
  intro p e s m args below meth c S
  unfold f_X10_isImage at h
  refine gv_iload_n 0 S 0 0 dX10_isImage_0 rfl rfl ?_
  refine gv_iconst 1 S (0 : Int32) dX10_isImage_1 (by decide) ?_
  refine gv_iconst 2 S (1 : Int32) dX10_isImage_2 (by decide) ?_
  obtain ⟨r1, hc2, h⟩ := br_some h
  refine gv_cSi 3 S (As := [.int v0, .int (0 : Int32), .int (1 : Int32)]) (rest := []) (c_X10_within l X M v0 (0 : Int32) (1 : Int32) r1 hc2) (va_cwS 3 S.1.2.2.2.2 gX10_isImage_X10_within rfl rfl rfl (by decide +kernel) ⟨Nat.le_of_ble_eq_true rfl, Nat.le_of_ble_eq_true rfl⟩) rfl rfl (Nat.le_of_ble_eq_true rfl) dX10_isImage_3 ?_
  exact gv_zretRG 6 S h dX10_isImage_6
theorem mi_X10_keep_10 : ∀ w ∈ u_ws RX10 TX10 12, w ∈ wsX10_keep := by decide +kernel
theorem mf_X10_keep_32 : MF wsX10_keep RX10 32 9 1 := ⟨RX10, TX10, 12, rfl, by decide, mi_X10_keep_10, by decide +kernel⟩
theorem mi_X10_keep_1 : ∀ w ∈ u_ws RX1 TX1 4, w ∈ wsX10_keep := by decide +kernel
theorem mf_X10_keep_117 : MF wsX10_keep RX10 117 1 3 := ⟨RX1, TX1, 4, rfl, by decide, mi_X10_keep_1, by decide +kernel⟩
theorem mf_X10_keep_20 : MF wsX10_keep RX10 20 9 3 := ⟨RX10, TX10, 12, rfl, by decide, mi_X10_keep_10, by decide +kernel⟩
theorem mf_X10_keep_124 : MF wsX10_keep RX10 124 1 2 := ⟨RX1, TX1, 4, rfl, by decide, mi_X10_keep_1, by decide +kernel⟩
theorem mf_X10_keep_25 : MF wsX10_keep RX10 25 9 4 := ⟨RX10, TX10, 12, rfl, by decide, mi_X10_keep_10, by decide +kernel⟩
abbrev rm_X10_keep : Room := { frames := 3, cells := 0, slots := 0, locals := 60 }
set_option maxHeartbeats 4000000 in
set_option maxRecDepth 100000 in
theorem t_X10_keep_49 {p : Program} {l : Launch} {e : Env} {s : State} {m : MethodId} {args : Array Value} {below : List Frame} {meth : Method} {c : Code} {X : GE} {r : Int32} {M' : MM} (S : CX p s m args meth c cX10_keep 4 wsX10_keep RX10 (some .int) X) : ∀ (n : Nat) (M : MM) (v2 : Int32) (v3 : Int32) (h : g_X10_keep_49 n M v2 v3 = some (r, M')), V p l e (headSpec wsX10_keep rm_X10_keep).room s m args below meth c 4 X (MQ below (gQi X r M') args s 0 0 (gA X)) M 49 [(0, .ref (X.2.2 0)), (2, .int v2), (3, .int v3)] [] := by
  intro n
  induction n with
  | zero =>
    intro M v2 v3 h
    rw [g_X10_keep_49] at h
    cases h
  | succ n ih =>
    intro M v2 v3 h
    rw [g_X10_keep_49] at h
    refine gv_iload_n 49 S 3 2 dX10_keep_49 rfl rfl ?_
    refine gv_iconst 50 S (2 : Int32) dX10_keep_50 (by decide) ?_
    refine gv_icmp_ge 51 S 77 h dX10_keep_51 (by decide) (fun h => ?_) (fun h => ?_)
    · refine gv_iload_n 77 S 2 1 dX10_keep_77 rfl rfl ?_
      exact gv_iret 78 S h dX10_keep_78
    · refine gv_iload_n 54 S 2 1 dX10_keep_54 rfl rfl ?_
      refine gv_aload_n 55 S 0 0 dX10_keep_55 rfl rfl ?_
      refine gv_get 56 S (hF_0_kept X) mf_X10_keep_25 dX10_keep_56 ?_
      refine gv_iload_n 59 S 3 2 dX10_keep_59 rfl rfl ?_
      refine gv_zald 60 S h (hZ_19 X) dX10_keep_60 (fun h => ?_)
      refine gv_if_eq 61 S 68 h dX10_keep_61 (by decide) (fun h => ?_) (fun h => ?_)
      · refine gv_iconst 68 S (0 : Int32) dX10_keep_68 (by decide) ?_
        refine gv_iadd 69 S dX10_keep_69 ?_
        refine gv_nmi h (fun x8 h => ?_)
        refine gv_istore_n 70 S 2 (lv' := [(2, .int x8), (0, .ref (X.2.2 0)), (3, .int v3)]) dX10_keep_70 rfl (Nat.le_of_ble_eq_true rfl) rfl ?_
        refine gv_iinc 71 S 2 (v3 + (1 : Int32)) (lv' := [(3, .int (v3 + (1 : Int32))), (2, .int x8), (0, .ref (X.2.2 0))]) dX10_keep_71 rfl rfl (Nat.le_of_ble_eq_true rfl) rfl ?_
        refine gv_goto 74 S 49 dX10_keep_74 (by decide) ?_
        exact gv_sub [2, 1, 0] rfl (ih M x8 (v3 + (1 : Int32)) h)
      · refine gv_iconst 64 S (1 : Int32) dX10_keep_64 (by decide) ?_
        refine gv_goto 65 S 69 dX10_keep_65 (by decide) ?_
        refine gv_iadd 69 S dX10_keep_69 ?_
        refine gv_nmi h (fun x9 h => ?_)
        refine gv_istore_n 70 S 2 (lv' := [(2, .int x9), (0, .ref (X.2.2 0)), (3, .int v3)]) dX10_keep_70 rfl (Nat.le_of_ble_eq_true rfl) rfl ?_
        refine gv_iinc 71 S 2 (v3 + (1 : Int32)) (lv' := [(3, .int (v3 + (1 : Int32))), (2, .int x9), (0, .ref (X.2.2 0))]) dX10_keep_71 rfl rfl (Nat.le_of_ble_eq_true rfl) rfl ?_
        refine gv_goto 74 S 49 dX10_keep_74 (by decide) ?_
        exact gv_sub [2, 1, 0] rfl (ih M x9 (v3 + (1 : Int32)) h)
set_option maxHeartbeats 4000000 in
set_option maxRecDepth 100000 in
theorem c_X10_keep (l : Launch) (X : GE) (M : MM) (v1 : Int32) (r : Int32) (M' : MM) (h : f_X10_keep M v1 = some (r, M')) : CTi l yX10_keep wsX10_keep rm_X10_keep X [.ref (X.2.2 0), .int v1] M r M' := by
  refine ct_i (own := RX10) (by decide +kernel) rfl rfl (Nat.le_of_ble_eq_true rfl) (lv0 := [(0, .ref (X.2.2 0)), (1, .int v1)]) rfl ?_
  intro p e s m args below meth c S
  unfold f_X10_keep at h
  refine gv_iload_n 0 S 1 1 dX10_keep_0 rfl rfl ?_
  obtain ⟨r1, hc2, h⟩ := br_some h
  refine gv_cSi 1 S (As := [.int v1]) (rest := []) (c_X10_isImage l X M v1 r1 hc2) (va_cwS 1 S.1.2.2.2.2 gX10_keep_X10_isImage rfl rfl rfl (by decide +kernel) ⟨Nat.le_of_ble_eq_true rfl, Nat.le_of_ble_eq_true rfl⟩) rfl rfl (Nat.le_of_ble_eq_true rfl) dX10_keep_1 ?_
  refine gv_if_ne 4 S 9 h dX10_keep_4 (by decide) (fun h => ?_) (fun h => ?_)
  · refine gv_aload_n 9 S 0 0 dX10_keep_9 rfl rfl ?_
    refine gv_get 10 S (hF_0_loft X) mf_X10_keep_32 dX10_keep_10 ?_
    refine gv_get 13 S (hF_20_count X) mf_X10_keep_117 dX10_keep_13 ?_
    refine gv_if_ne 16 S 22 h dX10_keep_16 (by decide) (fun h => ?_) (fun h => ?_)
    · refine gv_aload_n 22 S 0 0 dX10_keep_22 rfl rfl ?_
      refine gv_get 23 S (hF_0_images X) mf_X10_keep_20 dX10_keep_23 ?_
      refine gv_iload_n 26 S 1 1 dX10_keep_26 rfl rfl ?_
      refine gv_aald 27 S h (hR_10 X) rfl dX10_keep_27 (fun hq3 h => ?_)
      refine gv_aload_n 28 S 0 0 dX10_keep_28 rfl rfl ?_
      refine gv_get 29 S (hF_0_loft X) mf_X10_keep_32 dX10_keep_29 ?_
      refine gv_get 32 S (hF_20_now X) mf_X10_keep_124 dX10_keep_32 ?_
      obtain ⟨M5, hc6, h⟩ := br_some h
      refine gv_cVv 35 S (As := [.ref (X.2.2 23)]) (rest := []) (c_X6_takeAll l X M (11 + 4 * v1.toNatClampNeg) 23 (isRg_im hq3) isRg_now M5 hc6) (hO_Rg (isRg_im hq3)) rfl (cwV 1 S.1.2.2.2.2 gX10_keep_X6_takeAll rfl rfl rfl (by decide +kernel) ⟨Nat.le_of_ble_eq_true rfl, Nat.le_of_ble_eq_true rfl⟩) rfl rfl (Nat.le_of_ble_eq_true rfl) dX10_keep_35 ?_
      refine gv_aload_n 38 S 0 0 dX10_keep_38 rfl rfl ?_
      refine gv_get 39 S (hF_0_kept X) mf_X10_keep_25 dX10_keep_39 ?_
      refine gv_iload_n 42 S 1 1 dX10_keep_42 rfl rfl ?_
      refine gv_iconst 43 S (1 : Int32) dX10_keep_43 (by decide) ?_
      refine gv_zast 44 S h (by decide) (hZ_19 X) dX10_keep_44 (fun M7 h => ?_)
      refine gv_iconst 45 S (0 : Int32) dX10_keep_45 (by decide) ?_
      refine gv_istore_n 46 S 2 (lv' := [(2, .int (0 : Int32)), (0, .ref (X.2.2 0)), (1, .int v1)]) dX10_keep_46 rfl (Nat.le_of_ble_eq_true rfl) rfl ?_
      refine gv_iconst 47 S (0 : Int32) dX10_keep_47 (by decide) ?_
      refine gv_istore_n 48 S 3 (lv' := [(3, .int (0 : Int32)), (2, .int (0 : Int32)), (0, .ref (X.2.2 0)), (1, .int v1)]) dX10_keep_48 rfl (Nat.le_of_ble_eq_true rfl) rfl ?_
      exact gv_sub [2, 1, 0] rfl (t_X10_keep_49 S FU M7 (0 : Int32) (0 : Int32) h)
    · refine gv_bipush 19 S (-3 : Int32) dX10_keep_19 (by decide) ?_
      exact gv_iret 21 S h dX10_keep_21
  · refine gv_iconst 7 S (-1 : Int32) dX10_keep_7 (by decide) ?_
    exact gv_iret 8 S h dX10_keep_8
theorem mi_X10_restore_10 : ∀ w ∈ u_ws RX10 TX10 12, w ∈ wsX10_restore := by decide +kernel
theorem mf_X10_restore_25 : MF wsX10_restore RX10 25 9 4 := ⟨RX10, TX10, 12, rfl, by decide, mi_X10_restore_10, by decide +kernel⟩
theorem mf_X10_restore_32 : MF wsX10_restore RX10 32 9 1 := ⟨RX10, TX10, 12, rfl, by decide, mi_X10_restore_10, by decide +kernel⟩
theorem mi_X10_restore_1 : ∀ w ∈ u_ws RX1 TX1 4, w ∈ wsX10_restore := by decide +kernel
theorem mf_X10_restore_124 : MF wsX10_restore RX10 124 1 2 := ⟨RX1, TX1, 4, rfl, by decide, mi_X10_restore_1, by decide +kernel⟩
theorem mf_X10_restore_20 : MF wsX10_restore RX10 20 9 3 := ⟨RX10, TX10, 12, rfl, by decide, mi_X10_restore_10, by decide +kernel⟩
theorem mf_X10_restore_39 : MF wsX10_restore RX10 39 9 2 := ⟨RX10, TX10, 12, rfl, by decide, mi_X10_restore_10, by decide +kernel⟩
theorem mi_X10_restore_6 : ∀ w ∈ u_ws RX6 TX6 6, w ∈ wsX10_restore := by decide +kernel
theorem mf_X10_restore_194 : MF wsX10_restore RX10 194 6 3 := ⟨RX6, TX6, 6, rfl, by decide, mi_X10_restore_6, by decide +kernel⟩
abbrev rm_X10_restore : Room := { frames := 3, cells := 0, slots := 0, locals := 60 }
set_option maxHeartbeats 4000000 in
set_option maxRecDepth 100000 in
theorem c_X10_restore (l : Launch) (X : GE) (M : MM) (v1 : Int32) (r : Int32) (M' : MM) (h : f_X10_restore M v1 = some (r, M')) : CTi l yX10_restore wsX10_restore rm_X10_restore X [.ref (X.2.2 0), .int v1] M r M' := by
  refine ct_i (own := RX10) (by decide +kernel) rfl rfl (Nat.le_of_ble_eq_true rfl) (lv0 := [(0, .ref (X.2.2 0)), (1, .int v1)]) rfl ?_
  intro p e s m args below meth c S
  unfold f_X10_restore at h
  refine gv_iload_n 0 S 1 1 dX10_restore_0 rfl rfl ?_
  obtain ⟨r1, hc2, h⟩ := br_some h
  refine gv_cSi 1 S (As := [.int v1]) (rest := []) (c_X10_isImage l X M v1 r1 hc2) (va_cwS 1 S.1.2.2.2.2 gX10_restore_X10_isImage rfl rfl rfl (by decide +kernel) ⟨Nat.le_of_ble_eq_true rfl, Nat.le_of_ble_eq_true rfl⟩) rfl rfl (Nat.le_of_ble_eq_true rfl) dX10_restore_1 ?_
  refine gv_if_ne 4 S 9 h dX10_restore_4 (by decide) (fun h => ?_) (fun h => ?_)
  · refine gv_aload_n 9 S 0 0 dX10_restore_9 rfl rfl ?_
    refine gv_get 10 S (hF_0_kept X) mf_X10_restore_25 dX10_restore_10 ?_
    refine gv_iload_n 13 S 1 1 dX10_restore_13 rfl rfl ?_
    refine gv_zald 14 S h (hZ_19 X) dX10_restore_14 (fun h => ?_)
    refine gv_if_ne 15 S 21 h dX10_restore_15 (by decide) (fun h => ?_) (fun h => ?_)
    · refine gv_aload_n 21 S 0 0 dX10_restore_21 rfl rfl ?_
      refine gv_get 22 S (hF_0_loft X) mf_X10_restore_32 dX10_restore_22 ?_
      refine gv_get 25 S (hF_20_now X) mf_X10_restore_124 dX10_restore_25 ?_
      refine gv_aload_n 28 S 0 0 dX10_restore_28 rfl rfl ?_
      refine gv_get 29 S (hF_0_images X) mf_X10_restore_20 dX10_restore_29 ?_
      refine gv_iload_n 32 S 1 1 dX10_restore_32 rfl rfl ?_
      refine gv_aald 33 S h (hR_10 X) rfl dX10_restore_33 (fun hq3 h => ?_)
      obtain ⟨M5, hc6, h⟩ := br_some h
      refine gv_cVv 34 S (As := [.ref (X.2.2 (11 + 4 * v1.toNatClampNeg))]) (rest := []) (c_X6_takeAll l X M 23 (11 + 4 * v1.toNatClampNeg) isRg_now (isRg_im hq3) M5 hc6) (hO_23 X) rfl (cwV 1 S.1.2.2.2.2 gX10_restore_X6_takeAll rfl rfl rfl (by decide +kernel) ⟨Nat.le_of_ble_eq_true rfl, Nat.le_of_ble_eq_true rfl⟩) rfl rfl (Nat.le_of_ble_eq_true rfl) dX10_restore_34 ?_
      refine gv_aload_n 37 S 0 0 dX10_restore_37 rfl rfl ?_
      refine gv_get 38 S (hF_0_past X) mf_X10_restore_39 dX10_restore_38 ?_
      obtain ⟨M8, hc9, h⟩ := br_some h
      refine gv_cVv 41 S (As := []) (rest := []) (c_X3_forget l X M5 M8 hc9) (hO_27 X) rfl (cwV 0 S.1.2.2.2.2 gX10_restore_X3_forget rfl rfl rfl (by decide +kernel) ⟨Nat.le_of_ble_eq_true rfl, Nat.le_of_ble_eq_true rfl⟩) rfl rfl (Nat.le_of_ble_eq_true rfl) dX10_restore_41 ?_
      refine gv_aload_n 44 S 0 0 dX10_restore_44 rfl rfl ?_
      refine gv_get 45 S (hF_0_loft X) mf_X10_restore_32 dX10_restore_45 ?_
      refine gv_get 48 S (hF_20_now X) mf_X10_restore_124 dX10_restore_48 ?_
      refine gv_get 51 S (hF_23_stock X) mf_X10_restore_194 dX10_restore_51 ?_
      exact gv_iret 54 S h dX10_restore_54
    · refine gv_bipush 18 S (-3 : Int32) dX10_restore_18 (by decide) ?_
      exact gv_iret 20 S h dX10_restore_20
  · refine gv_iconst 7 S (-1 : Int32) dX10_restore_7 (by decide) ?_
    exact gv_iret 8 S h dX10_restore_8
theorem mi_X10_act_10 : ∀ w ∈ u_ws RX10 TX10 12, w ∈ wsX10_act := by decide +kernel
theorem mp_X10_act_78 : MP wsX10_act RX10 78 9 11 .int := ⟨RX10, TX10, 12, tyX10, rfl, by decide, mi_X10_act_10, by decide +kernel, tyX10_ok, nmX10, rfl, by decide +kernel⟩
theorem mf_X10_act_13 : MF wsX10_act RX10 13 9 0 := ⟨RX10, TX10, 12, rfl, by decide, mi_X10_act_10, by decide +kernel⟩
theorem mf_X10_act_60 : MF wsX10_act RX10 60 9 7 := ⟨RX10, TX10, 12, rfl, by decide, mi_X10_act_10, by decide +kernel⟩
theorem mf_X10_act_32 : MF wsX10_act RX10 32 9 1 := ⟨RX10, TX10, 12, rfl, by decide, mi_X10_act_10, by decide +kernel⟩
theorem mf_X10_act_53 : MF wsX10_act RX10 53 9 6 := ⟨RX10, TX10, 12, rfl, by decide, mi_X10_act_10, by decide +kernel⟩
theorem mi_X10_act_1 : ∀ w ∈ u_ws RX1 TX1 4, w ∈ wsX10_act := by decide +kernel
theorem mf_X10_act_124 : MF wsX10_act RX10 124 1 2 := ⟨RX1, TX1, 4, rfl, by decide, mi_X10_act_1, by decide +kernel⟩
theorem mi_X10_act_6 : ∀ w ∈ u_ws RX6 TX6 6, w ∈ wsX10_act := by decide +kernel
theorem mf_X10_act_158 : MF wsX10_act RX10 158 6 4 := ⟨RX6, TX6, 6, rfl, by decide, mi_X10_act_6, by decide +kernel⟩
theorem mi_X10_act_0 : ∀ w ∈ u_ws RX0 TX0 5, w ∈ wsX10_act := by decide +kernel
theorem mf_X10_act_213 : MF wsX10_act RX10 213 0 4 := ⟨RX0, TX0, 5, rfl, by decide, mi_X10_act_0, by decide +kernel⟩
theorem mf_X10_act_216 : MF wsX10_act RX10 216 0 1 := ⟨RX0, TX0, 5, rfl, by decide, mi_X10_act_0, by decide +kernel⟩
theorem mf_X10_act_222 : MF wsX10_act RX10 222 0 3 := ⟨RX0, TX0, 5, rfl, by decide, mi_X10_act_0, by decide +kernel⟩
theorem mf_X10_act_219 : MF wsX10_act RX10 219 0 2 := ⟨RX0, TX0, 5, rfl, by decide, mi_X10_act_0, by decide +kernel⟩
abbrev rm_X10_act : Room := { frames := 5, cells := 0, slots := 0, locals := 108 }
set_option maxHeartbeats 4000000 in
set_option maxRecDepth 100000 in
theorem t_X10_act_61 {p : Program} {l : Launch} {e : Env} {s : State} {m : MethodId} {args : Array Value} {below : List Frame} {meth : Method} {c : Code} {X : GE} {r : Int32} {M' : MM} (S : CX p s m args meth c cX10_act 8 wsX10_act RX10 (some .int) X) (M : MM) (v1 : Int32) (v2 : Int32) (v3 : Int32) (v4 : Int32) (v5 : Int32) (v6 : Int32) (h : g_X10_act_61 M v1 v2 v3 v4 v5 v6 = some (r, M')) : V p l e (headSpec wsX10_act rm_X10_act).room s m args below meth c 8 X (MQ below (gQi X r M') args s 0 0 (gA X)) M 61 [(0, .ref (X.2.2 0)), (1, .int v1), (2, .int v2), (3, .int v3), (4, .int v4), (5, .int v5), (6, .int v6)] [] := by
  unfold g_X10_act_61 at h
  refine gv_aload_n 61 S 0 0 dX10_act_61 rfl rfl ?_
  refine gv_aload_n 62 S 0 0 dX10_act_62 rfl rfl ?_
  refine gv_get 63 S (hF_0_sheets X) mf_X10_act_13 dX10_act_63 ?_
  refine gv_iload_n 66 S 1 1 dX10_act_66 rfl rfl ?_
  refine gv_aald 67 S h (hR_1 X) rfl dX10_act_67 (fun hq12 h => ?_)
  refine gv_iload_n 68 S 2 2 dX10_act_68 rfl rfl ?_
  refine gv_iload_n 69 S 3 3 dX10_act_69 rfl rfl ?_
  refine gv_iload 70 S 4 dX10_act_70 rfl ?_
  obtain ⟨r13, M14, hc15, h⟩ := bi_some h
  refine gv_cVi 72 S (As := [.ref (X.2.2 (2 + 2 * v1.toNatClampNeg)), .int v2, .int v3, .int v4]) (rest := []) (c_X10_takeMoves l X M (2 + 2 * v1.toNatClampNeg) v2 v3 v4 (isSh_at hq12) r13 M14 hc15) (hO_0 X) rfl (cwV 4 S.1.2.2.2.2 gX10_act_X10_takeMoves rfl rfl rfl (by decide +kernel) ⟨Nat.le_of_ble_eq_true rfl, Nat.le_of_ble_eq_true rfl⟩) rfl rfl (Nat.le_of_ble_eq_true rfl) dX10_act_72 ?_
  refine gv_istore 75 S (lv' := [(7, .int r13), (0, .ref (X.2.2 0)), (1, .int v1), (2, .int v2), (3, .int v3), (4, .int v4), (5, .int v5), (6, .int v6)]) dX10_act_75 (Nat.le_of_ble_eq_true rfl) rfl ?_
  refine gv_iload 77 S 0 dX10_act_77 rfl ?_
  refine gv_if_eq 79 S 85 h dX10_act_79 (by decide) (fun h => ?_) (fun h => ?_)
  · refine gv_aload_n 85 S 0 1 dX10_act_85 rfl rfl ?_
    refine gv_get 86 S (hF_0_told X) mf_X10_act_60 dX10_act_86 ?_
    refine gv_aload_n 89 S 0 1 dX10_act_89 rfl rfl ?_
    refine gv_get 90 S (hF_0_loft X) mf_X10_act_32 dX10_act_90 ?_
    refine gv_aload_n 93 S 0 1 dX10_act_93 rfl rfl ?_
    refine gv_get 94 S (hF_0_moves X) mf_X10_act_53 dX10_act_94 ?_
    refine gv_aload_n 97 S 0 1 dX10_act_97 rfl rfl ?_
    refine gv_get 98 S (hF_0_loft X) mf_X10_act_32 dX10_act_98 ?_
    refine gv_get 101 S (hF_20_now X) mf_X10_act_124 dX10_act_101 ?_
    refine gv_get 104 S (hF_23_hands X) mf_X10_act_158 dX10_act_104 ?_
    obtain ⟨M17, hc18, h⟩ := br_some h
    refine gv_cVv 107 S (As := [.ref (X.2.2 20), .ref (X.2.2 65), .int (M14 23 4)]) (rest := []) (c_X0_run l X M14 (M14 23 4) M17 hc18) (hO_68 X) rfl (cwV 3 S.1.2.2.2.2 gX10_act_X0_run rfl rfl rfl (by decide +kernel) ⟨Nat.le_of_ble_eq_true rfl, Nat.le_of_ble_eq_true rfl⟩) rfl rfl (Nat.le_of_ble_eq_true rfl) dX10_act_107 ?_
    refine gv_iload 110 S 6 dX10_act_110 rfl ?_
    refine gv_iconst 112 S (1 : Int32) dX10_act_112 (by decide) ?_
    refine gv_icmp_ne 113 S 124 h dX10_act_113 (by decide) (fun h => ?_) (fun h => ?_)
    · refine gv_aload_n 124 S 0 1 dX10_act_124 rfl rfl ?_
      refine gv_get 125 S (hF_0_told X) mf_X10_act_60 dX10_act_125 ?_
      refine gv_get 128 S (hF_68_firstWrong X) mf_X10_act_213 dX10_act_128 ?_
      refine gv_bipush 131 S (-9 : Int32) dX10_act_131 (by decide) ?_
      refine gv_icmp_eq 133 S 147 h dX10_act_133 (by decide) (fun h => ?_) (fun h => ?_)
      · refine gv_iload 147 S 7 dX10_act_147 rfl ?_
        refine gv_if_eq 149 S 186 h dX10_act_149 (by decide) (fun h => ?_) (fun h => ?_)
        · refine gv_iload 186 S 6 dX10_act_186 rfl ?_
          refine gv_if_ne 188 S 201 h dX10_act_188 (by decide) (fun h => ?_) (fun h => ?_)
          · refine gv_iload 201 S 6 dX10_act_201 rfl ?_
            refine gv_iconst 203 S (2 : Int32) dX10_act_203 (by decide) ?_
            refine gv_icmp_ne 204 S 217 h dX10_act_204 (by decide) (fun h => ?_) (fun h => ?_)
            · refine gv_aload_n 217 S 0 1 dX10_act_217 rfl rfl ?_
              refine gv_get 218 S (hF_0_loft X) mf_X10_act_32 dX10_act_218 ?_
              refine gv_aload_n 221 S 0 1 dX10_act_221 rfl rfl ?_
              refine gv_get 222 S (hF_0_told X) mf_X10_act_60 dX10_act_222 ?_
              refine gv_get 225 S (hF_68_after X) mf_X10_act_216 dX10_act_225 ?_
              obtain ⟨r19, hc20, h⟩ := br_some h
              refine gv_cVi 228 S (As := [.ref (X.2.2 70)]) (rest := []) (c_X1_seenAt l X M17 70 (hI_70 X) r19 hc20) (hO_20 X) rfl (cwV 1 S.1.2.2.2.2 gX10_act_X1_seenAt rfl rfl rfl (by decide +kernel) ⟨Nat.le_of_ble_eq_true rfl, Nat.le_of_ble_eq_true rfl⟩) rfl rfl (Nat.le_of_ble_eq_true rfl) dX10_act_228 ?_
              exact gv_iret 231 S h dX10_act_231
            · refine gv_aload_n 207 S 0 1 dX10_act_207 rfl rfl ?_
              refine gv_get 208 S (hF_0_told X) mf_X10_act_60 dX10_act_208 ?_
              refine gv_get 211 S (hF_68_effort X) mf_X10_act_222 dX10_act_211 ?_
              refine gv_goto 214 S 231 dX10_act_214 (by decide) ?_
              exact gv_iret 231 S h dX10_act_231
          · refine gv_aload_n 191 S 0 1 dX10_act_191 rfl rfl ?_
            refine gv_get 192 S (hF_0_told X) mf_X10_act_60 dX10_act_192 ?_
            refine gv_get 195 S (hF_68_beats X) mf_X10_act_219 dX10_act_195 ?_
            refine gv_goto 198 S 231 dX10_act_198 (by decide) ?_
            exact gv_iret 231 S h dX10_act_231
        · refine gv_aload_n 152 S 0 1 dX10_act_152 rfl rfl ?_
          refine gv_get 153 S (hF_0_loft X) mf_X10_act_32 dX10_act_153 ?_
          refine gv_iload 156 S 6 dX10_act_156 rfl ?_
          refine gv_bipush 158 S (10 : Int32) dX10_act_158 (by decide) ?_
          refine gv_isub 160 S dX10_act_160 ?_
          obtain ⟨r21, hc22, h⟩ := br_some h
          refine gv_cVi 161 S (As := [.int (v5 - (10 : Int32))]) (rest := []) (c_X1_has l X M17 (v5 - (10 : Int32)) r21 hc22) (hO_20 X) rfl (cwV 1 S.1.2.2.2.2 gX10_act_X1_has rfl rfl rfl (by decide +kernel) ⟨Nat.le_of_ble_eq_true rfl, Nat.le_of_ble_eq_true rfl⟩) rfl rfl (Nat.le_of_ble_eq_true rfl) dX10_act_161 ?_
          refine gv_if_eq 164 S 183 h dX10_act_164 (by decide) (fun h => ?_) (fun h => ?_)
          · refine gv_bipush 183 S (-9 : Int32) dX10_act_183 (by decide) ?_
            exact gv_iret 185 S h dX10_act_185
          · refine gv_aload_n 167 S 0 1 dX10_act_167 rfl rfl ?_
            refine gv_get 168 S (hF_0_told X) mf_X10_act_60 dX10_act_168 ?_
            refine gv_get 171 S (hF_68_after X) mf_X10_act_216 dX10_act_171 ?_
            refine gv_iload 174 S 6 dX10_act_174 rfl ?_
            refine gv_bipush 176 S (10 : Int32) dX10_act_176 (by decide) ?_
            refine gv_isub 178 S dX10_act_178 ?_
            refine gv_iald 179 S h (hI_70 X) dX10_act_179 (fun h => ?_)
            refine gv_goto 180 S 185 dX10_act_180 (by decide) ?_
            exact gv_iret 185 S h dX10_act_185
      · refine gv_bipush 136 S (-100 : Int32) dX10_act_136 (by decide) ?_
        refine gv_aload_n 138 S 0 1 dX10_act_138 rfl rfl ?_
        refine gv_get 139 S (hF_0_told X) mf_X10_act_60 dX10_act_139 ?_
        refine gv_get 142 S (hF_68_firstWrong X) mf_X10_act_213 dX10_act_142 ?_
        refine gv_isub 145 S dX10_act_145 ?_
        exact gv_iret 146 S h dX10_act_146
    · refine gv_aload_n 116 S 0 1 dX10_act_116 rfl rfl ?_
      refine gv_get 117 S (hF_0_told X) mf_X10_act_60 dX10_act_117 ?_
      refine gv_get 120 S (hF_68_firstWrong X) mf_X10_act_213 dX10_act_120 ?_
      exact gv_iret 123 S h dX10_act_123
  · refine gv_iload 82 S 0 dX10_act_82 rfl ?_
    exact gv_iret 84 S h dX10_act_84
set_option maxHeartbeats 4000000 in
set_option maxRecDepth 100000 in
theorem c_X10_act (l : Launch) (X : GE) (M : MM) (v1 : Int32) (v2 : Int32) (v3 : Int32) (v4 : Int32) (v5 : Int32) (r : Int32) (M' : MM) (h : f_X10_act M v1 v2 v3 v4 v5 = some (r, M')) : CTi l yX10_act wsX10_act rm_X10_act X [.ref (X.2.2 0), .int v1, .int v2, .int v3, .int v4, .int v5] M r M' := by
  refine ct_i (own := RX10) (by decide +kernel) rfl rfl (Nat.le_of_ble_eq_true rfl) (lv0 := [(0, .ref (X.2.2 0)), (1, .int v1), (2, .int v2), (3, .int v3), (4, .int v4), (5, .int v5)]) rfl ?_
  intro p e s m args below meth c S
  unfold f_X10_act at h
  refine gv_aload_n 0 S 0 0 dX10_act_0 rfl rfl ?_
  refine gv_iconst 1 S (0 : Int32) dX10_act_1 (by decide) ?_
  refine gv_put 2 S h (hP_0_lastFault X) mp_X10_act_78 rfl rfl dX10_act_2 (fun M1 h => ?_)
  refine gv_iload_n 5 S 1 1 dX10_act_5 rfl rfl ?_
  obtain ⟨r2, hc3, h⟩ := br_some h
  refine gv_cSi 6 S (As := [.int v1]) (rest := []) (c_X10_isSheet l X M1 v1 r2 hc3) (va_cwS 1 S.1.2.2.2.2 gX10_act_X10_isSheet rfl rfl rfl (by decide +kernel) ⟨Nat.le_of_ble_eq_true rfl, Nat.le_of_ble_eq_true rfl⟩) rfl rfl (Nat.le_of_ble_eq_true rfl) dX10_act_6 ?_
  refine gv_if_ne 9 S 14 h dX10_act_9 (by decide) (fun h => ?_) (fun h => ?_)
  · refine gv_iload 14 S 5 dX10_act_14 rfl ?_
    refine gv_bipush 16 S (10 : Int32) dX10_act_16 (by decide) ?_
    refine gv_bipush 18 S (17 : Int32) dX10_act_18 (by decide) ?_
    obtain ⟨r4, hc5, h⟩ := br_some h
    refine gv_cSi 20 S (As := [.int v5, .int (10 : Int32), .int (17 : Int32)]) (rest := []) (c_X10_within l X M1 v5 (10 : Int32) (17 : Int32) r4 hc5) (va_cwS 3 S.1.2.2.2.2 gX10_act_X10_within rfl rfl rfl (by decide +kernel) ⟨Nat.le_of_ble_eq_true rfl, Nat.le_of_ble_eq_true rfl⟩) rfl rfl (Nat.le_of_ble_eq_true rfl) dX10_act_20 ?_
    refine gv_istore 23 S (lv' := [(6, .int r4), (0, .ref (X.2.2 0)), (1, .int v1), (2, .int v2), (3, .int v3), (4, .int v4), (5, .int v5)]) dX10_act_23 (Nat.le_of_ble_eq_true rfl) rfl ?_
    refine gv_iload_n 25 S 2 3 dX10_act_25 rfl rfl ?_
    obtain ⟨r6, hc7, h⟩ := br_some h
    refine gv_cSi 26 S (As := [.int v2]) (rest := []) (c_X10_isLane l X M1 v2 r6 hc7) (va_cwS 1 S.1.2.2.2.2 gX10_act_X10_isLane rfl rfl rfl (by decide +kernel) ⟨Nat.le_of_ble_eq_true rfl, Nat.le_of_ble_eq_true rfl⟩) rfl rfl (Nat.le_of_ble_eq_true rfl) dX10_act_26 ?_
    refine gv_if_eq 29 S 58 h dX10_act_29 (by decide) (fun h => ?_) (fun h => ?_)
    · refine gv_bipush 58 S (-2 : Int32) dX10_act_58 (by decide) ?_
      exact gv_iret 60 S h dX10_act_60
    · refine gv_iload 32 S 5 dX10_act_32 rfl ?_
      refine gv_iconst 34 S (0 : Int32) dX10_act_34 (by decide) ?_
      refine gv_bipush 35 S (20 : Int32) dX10_act_35 (by decide) ?_
      obtain ⟨r8, hc9, h⟩ := br_some h
      refine gv_cSi 37 S (As := [.int v4, .int (0 : Int32), .int (20 : Int32)]) (rest := []) (c_X10_within l X M1 v4 (0 : Int32) (20 : Int32) r8 hc9) (va_cwS 3 S.1.2.2.2.2 gX10_act_X10_within rfl rfl rfl (by decide +kernel) ⟨Nat.le_of_ble_eq_true rfl, Nat.le_of_ble_eq_true rfl⟩) rfl rfl (Nat.le_of_ble_eq_true rfl) dX10_act_37 ?_
      refine gv_if_eq 40 S 58 h dX10_act_40 (by decide) (fun h => ?_) (fun h => ?_)
      · refine gv_bipush 58 S (-2 : Int32) dX10_act_58 (by decide) ?_
        exact gv_iret 60 S h dX10_act_60
      · refine gv_iload 43 S 0 dX10_act_43 rfl ?_
        refine gv_if_ne 45 S 61 h dX10_act_45 (by decide) (fun h => ?_) (fun h => ?_)
        · exact gv_sub [1, 2, 3, 4, 5, 6, 0] rfl (t_X10_act_61 S M1 v1 v2 v3 v4 v5 r4 h)
        · refine gv_iload 48 S 6 dX10_act_48 rfl ?_
          refine gv_iconst 50 S (0 : Int32) dX10_act_50 (by decide) ?_
          refine gv_iconst 51 S (3 : Int32) dX10_act_51 (by decide) ?_
          obtain ⟨r10, hc11, h⟩ := br_some h
          refine gv_cSi 52 S (As := [.int v5, .int (0 : Int32), .int (3 : Int32)]) (rest := []) (c_X10_within l X M1 v5 (0 : Int32) (3 : Int32) r10 hc11) (va_cwS 3 S.1.2.2.2.2 gX10_act_X10_within rfl rfl rfl (by decide +kernel) ⟨Nat.le_of_ble_eq_true rfl, Nat.le_of_ble_eq_true rfl⟩) rfl rfl (Nat.le_of_ble_eq_true rfl) dX10_act_52 ?_
          refine gv_if_ne 55 S 61 h dX10_act_55 (by decide) (fun h => ?_) (fun h => ?_)
          · exact gv_sub [1, 2, 3, 4, 5, 6, 0] rfl (t_X10_act_61 S M1 v1 v2 v3 v4 v5 r4 h)
          · refine gv_bipush 58 S (-2 : Int32) dX10_act_58 (by decide) ?_
            exact gv_iret 60 S h dX10_act_60
  · refine gv_iconst 12 S (-1 : Int32) dX10_act_12 (by decide) ?_
    exact gv_iret 13 S h dX10_act_13
theorem mi_X10_picture_10 : ∀ w ∈ u_ws RX10 TX10 12, w ∈ wsX10_picture := by decide +kernel
theorem mf_X10_picture_32 : MF wsX10_picture RX10 32 9 1 := ⟨RX10, TX10, 12, rfl, by decide, mi_X10_picture_10, by decide +kernel⟩
theorem mi_X10_picture_1 : ∀ w ∈ u_ws RX1 TX1 4, w ∈ wsX10_picture := by decide +kernel
theorem mf_X10_picture_117 : MF wsX10_picture RX10 117 1 3 := ⟨RX1, TX1, 4, rfl, by decide, mi_X10_picture_1, by decide +kernel⟩
theorem mf_X10_picture_67 : MF wsX10_picture RX10 67 9 8 := ⟨RX10, TX10, 12, rfl, by decide, mi_X10_picture_10, by decide +kernel⟩
theorem mi_X10_picture_4 : ∀ w ∈ u_ws RX4 TX4 6, w ∈ wsX10_picture := by decide +kernel
theorem mf_X10_picture_233 : MF wsX10_picture RX10 233 4 3 := ⟨RX4, TX4, 6, rfl, by decide, mi_X10_picture_4, by decide +kernel⟩
theorem mf_X10_picture_232 : MF wsX10_picture RX10 232 4 5 := ⟨RX4, TX4, 6, rfl, by decide, mi_X10_picture_4, by decide +kernel⟩
theorem mf_X10_picture_229 : MF wsX10_picture RX10 229 4 4 := ⟨RX4, TX4, 6, rfl, by decide, mi_X10_picture_4, by decide +kernel⟩
abbrev rm_X10_picture : Room := { frames := 5, cells := 0, slots := 0, locals := 113 }
set_option maxHeartbeats 4000000 in
set_option maxRecDepth 100000 in
theorem c_X10_picture (l : Launch) (X : GE) (M : MM) (v1 : Int32) (v2 : Int32) (r : Int32) (M' : MM) (h : f_X10_picture M v1 v2 = some (r, M')) : CTi l yX10_picture wsX10_picture rm_X10_picture X [.ref (X.2.2 0), .int v1, .int v2] M r M' := by
  refine ct_i (own := RX10) (by decide +kernel) rfl rfl (Nat.le_of_ble_eq_true rfl) (lv0 := [(0, .ref (X.2.2 0)), (1, .int v1), (2, .int v2)]) rfl ?_
  intro p e s m args below meth c S
  unfold f_X10_picture at h
  refine gv_aload_n 0 S 0 0 dX10_picture_0 rfl rfl ?_
  refine gv_get 1 S (hF_0_loft X) mf_X10_picture_32 dX10_picture_1 ?_
  refine gv_get 4 S (hF_20_count X) mf_X10_picture_117 dX10_picture_4 ?_
  refine gv_if_ne 7 S 13 h dX10_picture_7 (by decide) (fun h => ?_) (fun h => ?_)
  · refine gv_iload_n 13 S 1 1 dX10_picture_13 rfl rfl ?_
    refine gv_iconst 14 S (0 : Int32) dX10_picture_14 (by decide) ?_
    refine gv_iconst 15 S (1 : Int32) dX10_picture_15 (by decide) ?_
    refine gv_aload_n 16 S 0 0 dX10_picture_16 rfl rfl ?_
    refine gv_get 17 S (hF_0_loft X) mf_X10_picture_32 dX10_picture_17 ?_
    refine gv_get 20 S (hF_20_count X) mf_X10_picture_117 dX10_picture_20 ?_
    refine gv_ishl 23 S dX10_picture_23 ?_
    refine gv_iconst 24 S (1 : Int32) dX10_picture_24 (by decide) ?_
    refine gv_isub 25 S dX10_picture_25 ?_
    obtain ⟨r1, hc2, h⟩ := br_some h
    refine gv_cSi 26 S (As := [.int v1, .int (0 : Int32), .int ((sl32 (1 : Int32) (M 20 3)) - (1 : Int32))]) (rest := []) (c_X10_within l X M v1 (0 : Int32) ((sl32 (1 : Int32) (M 20 3)) - (1 : Int32)) r1 hc2) (va_cwS 3 S.1.2.2.2.2 gX10_picture_X10_within rfl rfl rfl (by decide +kernel) ⟨Nat.le_of_ble_eq_true rfl, Nat.le_of_ble_eq_true rfl⟩) rfl rfl (Nat.le_of_ble_eq_true rfl) dX10_picture_26 ?_
    refine gv_if_eq 29 S 43 h dX10_picture_29 (by decide) (fun h => ?_) (fun h => ?_)
    · refine gv_bipush 43 S (-2 : Int32) dX10_picture_43 (by decide) ?_
      exact gv_iret 45 S h dX10_picture_45
    · refine gv_iload_n 32 S 2 2 dX10_picture_32 rfl rfl ?_
      refine gv_bipush 33 S (-2 : Int32) dX10_picture_33 (by decide) ?_
      refine gv_bipush 35 S (7 : Int32) dX10_picture_35 (by decide) ?_
      obtain ⟨r3, hc4, h⟩ := br_some h
      refine gv_cSi 37 S (As := [.int v2, .int (-2 : Int32), .int (7 : Int32)]) (rest := []) (c_X10_within l X M v2 (-2 : Int32) (7 : Int32) r3 hc4) (va_cwS 3 S.1.2.2.2.2 gX10_picture_X10_within rfl rfl rfl (by decide +kernel) ⟨Nat.le_of_ble_eq_true rfl, Nat.le_of_ble_eq_true rfl⟩) rfl rfl (Nat.le_of_ble_eq_true rfl) dX10_picture_37 ?_
      refine gv_if_ne 40 S 46 h dX10_picture_40 (by decide) (fun h => ?_) (fun h => ?_)
      · refine gv_iload_n 46 S 2 2 dX10_picture_46 rfl rfl ?_
        refine gv_aload_n 47 S 0 0 dX10_picture_47 rfl rfl ?_
        refine gv_get 48 S (hF_0_loft X) mf_X10_picture_32 dX10_picture_48 ?_
        refine gv_get 51 S (hF_20_count X) mf_X10_picture_117 dX10_picture_51 ?_
        refine gv_icmp_ge 54 S 72 h dX10_picture_54 (by decide) (fun h => ?_) (fun h => ?_)
        · refine gv_bipush 72 S (-9 : Int32) dX10_picture_72 (by decide) ?_
          exact gv_iret 74 S h dX10_picture_74
        · refine gv_aload_n 57 S 0 0 dX10_picture_57 rfl rfl ?_
          refine gv_get 58 S (hF_0_shown X) mf_X10_picture_67 dX10_picture_58 ?_
          refine gv_aload_n 61 S 0 0 dX10_picture_61 rfl rfl ?_
          refine gv_get 62 S (hF_0_loft X) mf_X10_picture_32 dX10_picture_62 ?_
          refine gv_iload_n 65 S 1 1 dX10_picture_65 rfl rfl ?_
          obtain ⟨r5, M6, hc7, h⟩ := bi_some h
          refine gv_cVi 66 S (As := [.ref (X.2.2 20), .int v1]) (rest := []) (c_X4_find l X M v1 r5 M6 hc7) (hO_71 X) rfl (cwV 2 S.1.2.2.2.2 gX10_picture_X4_find rfl rfl rfl (by decide +kernel) ⟨Nat.le_of_ble_eq_true rfl, Nat.le_of_ble_eq_true rfl⟩) rfl rfl (Nat.le_of_ble_eq_true rfl) dX10_picture_66 ?_
          refine gv_if_ne 69 S 75 h dX10_picture_69 (by decide) (fun h => ?_) (fun h => ?_)
          · refine gv_iload_n 75 S 2 2 dX10_picture_75 rfl rfl ?_
            refine gv_bipush 76 S (-2 : Int32) dX10_picture_76 (by decide) ?_
            refine gv_icmp_ne 78 S 91 h dX10_picture_78 (by decide) (fun h => ?_) (fun h => ?_)
            · refine gv_iload_n 91 S 2 2 dX10_picture_91 rfl rfl ?_
              refine gv_iconst 92 S (-1 : Int32) dX10_picture_92 (by decide) ?_
              refine gv_icmp_ne 93 S 106 h dX10_picture_93 (by decide) (fun h => ?_) (fun h => ?_)
              · refine gv_aload_n 106 S 0 0 dX10_picture_106 rfl rfl ?_
                refine gv_get 107 S (hF_0_shown X) mf_X10_picture_67 dX10_picture_107 ?_
                refine gv_get 110 S (hF_71_height X) mf_X10_picture_233 dX10_picture_110 ?_
                refine gv_iload_n 113 S 2 2 dX10_picture_113 rfl rfl ?_
                refine gv_iald 114 S h (hI_75 X) dX10_picture_114 (fun h => ?_)
                exact gv_iret 115 S h dX10_picture_115
              · refine gv_aload_n 96 S 0 0 dX10_picture_96 rfl rfl ?_
                refine gv_get 97 S (hF_0_shown X) mf_X10_picture_67 dX10_picture_97 ?_
                refine gv_get 100 S (hF_71_effort X) mf_X10_picture_232 dX10_picture_100 ?_
                refine gv_goto 103 S 115 dX10_picture_103 (by decide) ?_
                exact gv_iret 115 S h dX10_picture_115
            · refine gv_aload_n 81 S 0 0 dX10_picture_81 rfl rfl ?_
              refine gv_get 82 S (hF_0_shown X) mf_X10_picture_67 dX10_picture_82 ?_
              refine gv_get 85 S (hF_71_goes X) mf_X10_picture_229 dX10_picture_85 ?_
              refine gv_goto 88 S 115 dX10_picture_88 (by decide) ?_
              exact gv_iret 115 S h dX10_picture_115
          · refine gv_bipush 72 S (-9 : Int32) dX10_picture_72 (by decide) ?_
            exact gv_iret 74 S h dX10_picture_74
      · refine gv_bipush 43 S (-2 : Int32) dX10_picture_43 (by decide) ?_
        exact gv_iret 45 S h dX10_picture_45
  · refine gv_bipush 10 S (-3 : Int32) dX10_picture_10 (by decide) ?_
    exact gv_iret 12 S h dX10_picture_12
theorem mi_X10_split_10 : ∀ w ∈ u_ws RX10 TX10 12, w ∈ wsX10_split := by decide +kernel
theorem mp_X10_split_78 : MP wsX10_split RX10 78 9 11 .int := ⟨RX10, TX10, 12, tyX10, rfl, by decide, mi_X10_split_10, by decide +kernel, tyX10_ok, nmX10, rfl, by decide +kernel⟩
theorem mf_X10_split_13 : MF wsX10_split RX10 13 9 0 := ⟨RX10, TX10, 12, rfl, by decide, mi_X10_split_10, by decide +kernel⟩
theorem mf_X10_split_53 : MF wsX10_split RX10 53 9 6 := ⟨RX10, TX10, 12, rfl, by decide, mi_X10_split_10, by decide +kernel⟩
theorem mf_X10_split_74 : MF wsX10_split RX10 74 9 9 := ⟨RX10, TX10, 12, rfl, by decide, mi_X10_split_10, by decide +kernel⟩
theorem mf_X10_split_32 : MF wsX10_split RX10 32 9 1 := ⟨RX10, TX10, 12, rfl, by decide, mi_X10_split_10, by decide +kernel⟩
theorem mi_X10_split_8 : ∀ w ∈ u_ws RX8 TX8 7, w ∈ wsX10_split := by decide +kernel
theorem mf_X10_split_240 : MF wsX10_split RX10 240 8 4 := ⟨RX8, TX8, 7, rfl, by decide, mi_X10_split_8, by decide +kernel⟩
theorem mf_X10_split_237 : MF wsX10_split RX10 237 8 6 := ⟨RX8, TX8, 7, rfl, by decide, mi_X10_split_8, by decide +kernel⟩
abbrev rm_X10_split : Room := { frames := 6, cells := 0, slots := 0, locals := 131 }
set_option maxHeartbeats 4000000 in
set_option maxRecDepth 100000 in
theorem c_X10_split (l : Launch) (X : GE) (M : MM) (v1 : Int32) (v2 : Int32) (v3 : Int32) (v4 : Int32) (v5 : Int32) (r : Int32) (M' : MM) (h : f_X10_split M v1 v2 v3 v4 v5 = some (r, M')) : CTi l yX10_split wsX10_split rm_X10_split X [.ref (X.2.2 0), .int v1, .int v2, .int v3, .int v4, .int v5] M r M' := by
  refine ct_i (own := RX10) (by decide +kernel) rfl rfl (Nat.le_of_ble_eq_true rfl) (lv0 := [(0, .ref (X.2.2 0)), (1, .int v1), (2, .int v2), (3, .int v3), (4, .int v4), (5, .int v5)]) rfl ?_
  intro p e s m args below meth c S
  unfold f_X10_split at h
  refine gv_aload_n 0 S 0 0 dX10_split_0 rfl rfl ?_
  refine gv_iconst 1 S (0 : Int32) dX10_split_1 (by decide) ?_
  refine gv_put 2 S h (hP_0_lastFault X) mp_X10_split_78 rfl rfl dX10_split_2 (fun M1 h => ?_)
  refine gv_iload_n 5 S 1 1 dX10_split_5 rfl rfl ?_
  obtain ⟨r2, hc3, h⟩ := br_some h
  refine gv_cSi 6 S (As := [.int v1]) (rest := []) (c_X10_isSheet l X M1 v1 r2 hc3) (va_cwS 1 S.1.2.2.2.2 gX10_split_X10_isSheet rfl rfl rfl (by decide +kernel) ⟨Nat.le_of_ble_eq_true rfl, Nat.le_of_ble_eq_true rfl⟩) rfl rfl (Nat.le_of_ble_eq_true rfl) dX10_split_6 ?_
  refine gv_if_ne 9 S 14 h dX10_split_9 (by decide) (fun h => ?_) (fun h => ?_)
  · refine gv_iload_n 14 S 2 2 dX10_split_14 rfl rfl ?_
    obtain ⟨r4, hc5, h⟩ := br_some h
    refine gv_cSi 15 S (As := [.int v2]) (rest := []) (c_X10_isLane l X M1 v2 r4 hc5) (va_cwS 1 S.1.2.2.2.2 gX10_split_X10_isLane rfl rfl rfl (by decide +kernel) ⟨Nat.le_of_ble_eq_true rfl, Nat.le_of_ble_eq_true rfl⟩) rfl rfl (Nat.le_of_ble_eq_true rfl) dX10_split_15 ?_
    refine gv_if_eq 18 S 41 h dX10_split_18 (by decide) (fun h => ?_) (fun h => ?_)
    · refine gv_bipush 41 S (-2 : Int32) dX10_split_41 (by decide) ?_
      exact gv_iret 43 S h dX10_split_43
    · refine gv_iload 21 S 4 dX10_split_21 rfl ?_
      refine gv_iconst 23 S (0 : Int32) dX10_split_23 (by decide) ?_
      refine gv_iconst 24 S (5 : Int32) dX10_split_24 (by decide) ?_
      obtain ⟨r6, hc7, h⟩ := br_some h
      refine gv_cSi 25 S (As := [.int v4, .int (0 : Int32), .int (5 : Int32)]) (rest := []) (c_X10_within l X M1 v4 (0 : Int32) (5 : Int32) r6 hc7) (va_cwS 3 S.1.2.2.2.2 gX10_split_X10_within rfl rfl rfl (by decide +kernel) ⟨Nat.le_of_ble_eq_true rfl, Nat.le_of_ble_eq_true rfl⟩) rfl rfl (Nat.le_of_ble_eq_true rfl) dX10_split_25 ?_
      refine gv_if_eq 28 S 41 h dX10_split_28 (by decide) (fun h => ?_) (fun h => ?_)
      · refine gv_bipush 41 S (-2 : Int32) dX10_split_41 (by decide) ?_
        exact gv_iret 43 S h dX10_split_43
      · refine gv_iload 31 S 5 dX10_split_31 rfl ?_
        refine gv_iconst 33 S (-1 : Int32) dX10_split_33 (by decide) ?_
        refine gv_iconst 34 S (4 : Int32) dX10_split_34 (by decide) ?_
        obtain ⟨r8, hc9, h⟩ := br_some h
        refine gv_cSi 35 S (As := [.int v5, .int (-1 : Int32), .int (4 : Int32)]) (rest := []) (c_X10_within l X M1 v5 (-1 : Int32) (4 : Int32) r8 hc9) (va_cwS 3 S.1.2.2.2.2 gX10_split_X10_within rfl rfl rfl (by decide +kernel) ⟨Nat.le_of_ble_eq_true rfl, Nat.le_of_ble_eq_true rfl⟩) rfl rfl (Nat.le_of_ble_eq_true rfl) dX10_split_35 ?_
        refine gv_if_ne 38 S 44 h dX10_split_38 (by decide) (fun h => ?_) (fun h => ?_)
        · refine gv_aload_n 44 S 0 0 dX10_split_44 rfl rfl ?_
          refine gv_aload_n 45 S 0 0 dX10_split_45 rfl rfl ?_
          refine gv_get 46 S (hF_0_sheets X) mf_X10_split_13 dX10_split_46 ?_
          refine gv_iload_n 49 S 1 1 dX10_split_49 rfl rfl ?_
          refine gv_aald 50 S h (hR_1 X) rfl dX10_split_50 (fun hq10 h => ?_)
          refine gv_iload_n 51 S 2 2 dX10_split_51 rfl rfl ?_
          refine gv_iload_n 52 S 3 3 dX10_split_52 rfl rfl ?_
          refine gv_iload 53 S 4 dX10_split_53 rfl ?_
          obtain ⟨r11, M12, hc13, h⟩ := bi_some h
          refine gv_cVi 55 S (As := [.ref (X.2.2 (2 + 2 * v1.toNatClampNeg)), .int v2, .int v3, .int v4]) (rest := []) (c_X10_takeMoves l X M1 (2 + 2 * v1.toNatClampNeg) v2 v3 v4 (isSh_at hq10) r11 M12 hc13) (hO_0 X) rfl (cwV 4 S.1.2.2.2.2 gX10_split_X10_takeMoves rfl rfl rfl (by decide +kernel) ⟨Nat.le_of_ble_eq_true rfl, Nat.le_of_ble_eq_true rfl⟩) rfl rfl (Nat.le_of_ble_eq_true rfl) dX10_split_55 ?_
          refine gv_istore 58 S (lv' := [(6, .int r11), (0, .ref (X.2.2 0)), (1, .int v1), (2, .int v2), (3, .int v3), (4, .int v4), (5, .int v5)]) dX10_split_58 (Nat.le_of_ble_eq_true rfl) rfl ?_
          refine gv_iload 60 S 0 dX10_split_60 rfl ?_
          refine gv_if_eq 62 S 68 h dX10_split_62 (by decide) (fun h => ?_) (fun h => ?_)
          · refine gv_aload_n 68 S 0 1 dX10_split_68 rfl rfl ?_
            refine gv_get 69 S (hF_0_moves X) mf_X10_split_53 dX10_split_69 ?_
            obtain ⟨r14, hc15, h⟩ := br_some h
            refine gv_cVi 72 S (As := []) (rest := []) (c_X2_repeatBatten l X M12 r14 hc15) (hO_65 X) rfl (cwV 0 S.1.2.2.2.2 gX10_split_X2_repeatBatten rfl rfl rfl (by decide +kernel) ⟨Nat.le_of_ble_eq_true rfl, Nat.le_of_ble_eq_true rfl⟩) rfl rfl (Nat.le_of_ble_eq_true rfl) dX10_split_72 ?_
            refine gv_if_eq 75 S 81 h dX10_split_75 (by decide) (fun h => ?_) (fun h => ?_)
            · refine gv_iload 81 S 6 dX10_split_81 rfl ?_
              refine gv_iload 83 S 5 dX10_split_83 rfl ?_
              refine gv_icmp_ge 85 S 106 h dX10_split_85 (by decide) (fun h => ?_) (fun h => ?_)
              · refine gv_bipush 106 S (-9 : Int32) dX10_split_106 (by decide) ?_
                exact gv_iret 108 S h dX10_split_108
              · refine gv_aload_n 88 S 0 1 dX10_split_88 rfl rfl ?_
                refine gv_get 89 S (hF_0_parted X) mf_X10_split_74 dX10_split_89 ?_
                refine gv_aload_n 92 S 0 1 dX10_split_92 rfl rfl ?_
                refine gv_get 93 S (hF_0_loft X) mf_X10_split_32 dX10_split_93 ?_
                refine gv_aload_n 96 S 0 1 dX10_split_96 rfl rfl ?_
                refine gv_get 97 S (hF_0_moves X) mf_X10_split_53 dX10_split_97 ?_
                obtain ⟨r16, M17, hc18, h⟩ := bi_some h
                refine gv_cVi 100 S (As := [.ref (X.2.2 20), .ref (X.2.2 65)]) (rest := []) (c_X8_find l X M12 r16 M17 hc18) (hO_76 X) rfl (cwV 2 S.1.2.2.2.2 gX10_split_X8_find rfl rfl rfl (by decide +kernel) ⟨Nat.le_of_ble_eq_true rfl, Nat.le_of_ble_eq_true rfl⟩) rfl rfl (Nat.le_of_ble_eq_true rfl) dX10_split_100 ?_
                refine gv_if_ne 103 S 109 h dX10_split_103 (by decide) (fun h => ?_) (fun h => ?_)
                · refine gv_iload 109 S 6 dX10_split_109 rfl ?_
                  refine gv_iconst 111 S (-1 : Int32) dX10_split_111 (by decide) ?_
                  refine gv_icmp_ne 112 S 125 h dX10_split_112 (by decide) (fun h => ?_) (fun h => ?_)
                  · refine gv_aload_n 125 S 0 1 dX10_split_125 rfl rfl ?_
                    refine gv_get 126 S (hF_0_parted X) mf_X10_split_74 dX10_split_126 ?_
                    refine gv_get 129 S (hF_76_cueOf X) mf_X10_split_240 dX10_split_129 ?_
                    refine gv_iload 132 S 6 dX10_split_132 rfl ?_
                    refine gv_iald 134 S h (hI_81 X) dX10_split_134 (fun h => ?_)
                    exact gv_iret 135 S h dX10_split_135
                  · refine gv_aload_n 115 S 0 1 dX10_split_115 rfl rfl ?_
                    refine gv_get 116 S (hF_0_parted X) mf_X10_split_74 dX10_split_116 ?_
                    refine gv_get 119 S (hF_76_cues X) mf_X10_split_237 dX10_split_119 ?_
                    refine gv_goto 122 S 135 dX10_split_122 (by decide) ?_
                    exact gv_iret 135 S h dX10_split_135
                · refine gv_bipush 106 S (-9 : Int32) dX10_split_106 (by decide) ?_
                  exact gv_iret 108 S h dX10_split_108
            · refine gv_bipush 78 S (-3 : Int32) dX10_split_78 (by decide) ?_
              exact gv_iret 80 S h dX10_split_80
          · refine gv_iload 65 S 0 dX10_split_65 rfl ?_
            exact gv_iret 67 S h dX10_split_67
        · refine gv_bipush 41 S (-2 : Int32) dX10_split_41 (by decide) ?_
          exact gv_iret 43 S h dX10_split_43
  · refine gv_iconst 12 S (-1 : Int32) dX10_split_12 (by decide) ?_
    exact gv_iret 13 S h dX10_split_13
theorem mi_X10_crew_10 : ∀ w ∈ u_ws RX10 TX10 12, w ∈ wsX10_crew := by decide +kernel
theorem mp_X10_crew_78 : MP wsX10_crew RX10 78 9 11 .int := ⟨RX10, TX10, 12, tyX10, rfl, by decide, mi_X10_crew_10, by decide +kernel, tyX10_ok, nmX10, rfl, by decide +kernel⟩
theorem mf_X10_crew_13 : MF wsX10_crew RX10 13 9 0 := ⟨RX10, TX10, 12, rfl, by decide, mi_X10_crew_10, by decide +kernel⟩
theorem mf_X10_crew_60 : MF wsX10_crew RX10 60 9 7 := ⟨RX10, TX10, 12, rfl, by decide, mi_X10_crew_10, by decide +kernel⟩
theorem mf_X10_crew_32 : MF wsX10_crew RX10 32 9 1 := ⟨RX10, TX10, 12, rfl, by decide, mi_X10_crew_10, by decide +kernel⟩
theorem mf_X10_crew_53 : MF wsX10_crew RX10 53 9 6 := ⟨RX10, TX10, 12, rfl, by decide, mi_X10_crew_10, by decide +kernel⟩
theorem mi_X10_crew_0 : ∀ w ∈ u_ws RX0 TX0 5, w ∈ wsX10_crew := by decide +kernel
theorem mf_X10_crew_213 : MF wsX10_crew RX10 213 0 4 := ⟨RX0, TX0, 5, rfl, by decide, mi_X10_crew_0, by decide +kernel⟩
abbrev rm_X10_crew : Room := { frames := 5, cells := 0, slots := 0, locals := 108 }
set_option maxHeartbeats 4000000 in
set_option maxRecDepth 100000 in
theorem t_X10_crew_62 {p : Program} {l : Launch} {e : Env} {s : State} {m : MethodId} {args : Array Value} {below : List Frame} {meth : Method} {c : Code} {X : GE} {r : Int32} {M' : MM} (S : CX p s m args meth c cX10_crew 7 wsX10_crew RX10 (some .int) X) : ∀ (n : Nat) (M : MM) (v6 : Int32) (h : g_X10_crew_62 n M v6 = some (r, M')), V p l e (headSpec wsX10_crew rm_X10_crew).room s m args below meth c 7 X (MQ below (gQi X r M') args s 0 0 (gA X)) M 62 [(0, .ref (X.2.2 0)), (6, .int v6)] [] := by
  intro n
  induction n with
  | zero =>
    intro M v6 h
    rw [g_X10_crew_62] at h
    cases h
  | succ n ih =>
    intro M v6 h
    rw [g_X10_crew_62] at h
    refine gv_iload 62 S 1 dX10_crew_62 rfl ?_
    refine gv_bipush 64 S (6 : Int32) dX10_crew_64 (by decide) ?_
    refine gv_icmp_gt 66 S 107 h dX10_crew_66 (by decide) (fun h => ?_) (fun h => ?_)
    · refine gv_bipush 107 S (-9 : Int32) dX10_crew_107 (by decide) ?_
      exact gv_iret 109 S h dX10_crew_109
    · refine gv_aload_n 69 S 0 0 dX10_crew_69 rfl rfl ?_
      refine gv_get 70 S (hF_0_told X) mf_X10_crew_60 dX10_crew_70 ?_
      refine gv_aload_n 73 S 0 0 dX10_crew_73 rfl rfl ?_
      refine gv_get 74 S (hF_0_loft X) mf_X10_crew_32 dX10_crew_74 ?_
      refine gv_aload_n 77 S 0 0 dX10_crew_77 rfl rfl ?_
      refine gv_get 78 S (hF_0_moves X) mf_X10_crew_53 dX10_crew_78 ?_
      refine gv_iload 81 S 1 dX10_crew_81 rfl ?_
      obtain ⟨M13, hc14, h⟩ := br_some h
      refine gv_cVv 83 S (As := [.ref (X.2.2 20), .ref (X.2.2 65), .int v6]) (rest := []) (c_X0_run l X M v6 M13 hc14) (hO_68 X) rfl (cwV 3 S.1.2.2.2.2 gX10_crew_X0_run rfl rfl rfl (by decide +kernel) ⟨Nat.le_of_ble_eq_true rfl, Nat.le_of_ble_eq_true rfl⟩) rfl rfl (Nat.le_of_ble_eq_true rfl) dX10_crew_83 ?_
      refine gv_aload_n 86 S 0 0 dX10_crew_86 rfl rfl ?_
      refine gv_get 87 S (hF_0_told X) mf_X10_crew_60 dX10_crew_87 ?_
      refine gv_get 90 S (hF_68_firstWrong X) mf_X10_crew_213 dX10_crew_90 ?_
      refine gv_bipush 93 S (-9 : Int32) dX10_crew_93 (by decide) ?_
      refine gv_icmp_ne 95 S 101 h dX10_crew_95 (by decide) (fun h => ?_) (fun h => ?_)
      · refine gv_iinc 101 S 1 (v6 + (1 : Int32)) (lv' := [(6, .int (v6 + (1 : Int32))), (0, .ref (X.2.2 0))]) dX10_crew_101 rfl rfl (Nat.le_of_ble_eq_true rfl) rfl ?_
        refine gv_goto 104 S 62 dX10_crew_104 (by decide) ?_
        exact gv_sub [1, 0] rfl (ih M13 (v6 + (1 : Int32)) h)
      · refine gv_iload 98 S 1 dX10_crew_98 rfl ?_
        exact gv_iret 100 S h dX10_crew_100
set_option maxHeartbeats 4000000 in
set_option maxRecDepth 100000 in
theorem c_X10_crew (l : Launch) (X : GE) (M : MM) (v1 : Int32) (v2 : Int32) (v3 : Int32) (v4 : Int32) (r : Int32) (M' : MM) (h : f_X10_crew M v1 v2 v3 v4 = some (r, M')) : CTi l yX10_crew wsX10_crew rm_X10_crew X [.ref (X.2.2 0), .int v1, .int v2, .int v3, .int v4] M r M' := by
  refine ct_i (own := RX10) (by decide +kernel) rfl rfl (Nat.le_of_ble_eq_true rfl) (lv0 := [(0, .ref (X.2.2 0)), (1, .int v1), (2, .int v2), (3, .int v3), (4, .int v4)]) rfl ?_
  intro p e s m args below meth c S
  unfold f_X10_crew at h
  refine gv_aload_n 0 S 0 0 dX10_crew_0 rfl rfl ?_
  refine gv_iconst 1 S (0 : Int32) dX10_crew_1 (by decide) ?_
  refine gv_put 2 S h (hP_0_lastFault X) mp_X10_crew_78 rfl rfl dX10_crew_2 (fun M1 h => ?_)
  refine gv_iload_n 5 S 1 1 dX10_crew_5 rfl rfl ?_
  obtain ⟨r2, hc3, h⟩ := br_some h
  refine gv_cSi 6 S (As := [.int v1]) (rest := []) (c_X10_isSheet l X M1 v1 r2 hc3) (va_cwS 1 S.1.2.2.2.2 gX10_crew_X10_isSheet rfl rfl rfl (by decide +kernel) ⟨Nat.le_of_ble_eq_true rfl, Nat.le_of_ble_eq_true rfl⟩) rfl rfl (Nat.le_of_ble_eq_true rfl) dX10_crew_6 ?_
  refine gv_if_ne 9 S 14 h dX10_crew_9 (by decide) (fun h => ?_) (fun h => ?_)
  · refine gv_iload_n 14 S 2 2 dX10_crew_14 rfl rfl ?_
    obtain ⟨r4, hc5, h⟩ := br_some h
    refine gv_cSi 15 S (As := [.int v2]) (rest := []) (c_X10_isLane l X M1 v2 r4 hc5) (va_cwS 1 S.1.2.2.2.2 gX10_crew_X10_isLane rfl rfl rfl (by decide +kernel) ⟨Nat.le_of_ble_eq_true rfl, Nat.le_of_ble_eq_true rfl⟩) rfl rfl (Nat.le_of_ble_eq_true rfl) dX10_crew_15 ?_
    refine gv_if_eq 18 S 32 h dX10_crew_18 (by decide) (fun h => ?_) (fun h => ?_)
    · refine gv_bipush 32 S (-2 : Int32) dX10_crew_32 (by decide) ?_
      exact gv_iret 34 S h dX10_crew_34
    · refine gv_iload 21 S 4 dX10_crew_21 rfl ?_
      refine gv_iconst 23 S (0 : Int32) dX10_crew_23 (by decide) ?_
      refine gv_bipush 24 S (20 : Int32) dX10_crew_24 (by decide) ?_
      obtain ⟨r6, hc7, h⟩ := br_some h
      refine gv_cSi 26 S (As := [.int v4, .int (0 : Int32), .int (20 : Int32)]) (rest := []) (c_X10_within l X M1 v4 (0 : Int32) (20 : Int32) r6 hc7) (va_cwS 3 S.1.2.2.2.2 gX10_crew_X10_within rfl rfl rfl (by decide +kernel) ⟨Nat.le_of_ble_eq_true rfl, Nat.le_of_ble_eq_true rfl⟩) rfl rfl (Nat.le_of_ble_eq_true rfl) dX10_crew_26 ?_
      refine gv_if_ne 29 S 35 h dX10_crew_29 (by decide) (fun h => ?_) (fun h => ?_)
      · refine gv_aload_n 35 S 0 0 dX10_crew_35 rfl rfl ?_
        refine gv_aload_n 36 S 0 0 dX10_crew_36 rfl rfl ?_
        refine gv_get 37 S (hF_0_sheets X) mf_X10_crew_13 dX10_crew_37 ?_
        refine gv_iload_n 40 S 1 1 dX10_crew_40 rfl rfl ?_
        refine gv_aald 41 S h (hR_1 X) rfl dX10_crew_41 (fun hq8 h => ?_)
        refine gv_iload_n 42 S 2 2 dX10_crew_42 rfl rfl ?_
        refine gv_iload_n 43 S 3 3 dX10_crew_43 rfl rfl ?_
        refine gv_iload 44 S 4 dX10_crew_44 rfl ?_
        obtain ⟨r9, M10, hc11, h⟩ := bi_some h
        refine gv_cVi 46 S (As := [.ref (X.2.2 (2 + 2 * v1.toNatClampNeg)), .int v2, .int v3, .int v4]) (rest := []) (c_X10_takeMoves l X M1 (2 + 2 * v1.toNatClampNeg) v2 v3 v4 (isSh_at hq8) r9 M10 hc11) (hO_0 X) rfl (cwV 4 S.1.2.2.2.2 gX10_crew_X10_takeMoves rfl rfl rfl (by decide +kernel) ⟨Nat.le_of_ble_eq_true rfl, Nat.le_of_ble_eq_true rfl⟩) rfl rfl (Nat.le_of_ble_eq_true rfl) dX10_crew_46 ?_
        refine gv_istore 49 S (lv' := [(5, .int r9), (0, .ref (X.2.2 0)), (1, .int v1), (2, .int v2), (3, .int v3), (4, .int v4)]) dX10_crew_49 (Nat.le_of_ble_eq_true rfl) rfl ?_
        refine gv_iload 51 S 0 dX10_crew_51 rfl ?_
        refine gv_if_eq 53 S 59 h dX10_crew_53 (by decide) (fun h => ?_) (fun h => ?_)
        · refine gv_iconst 59 S (1 : Int32) dX10_crew_59 (by decide) ?_
          refine gv_istore 60 S (lv' := [(6, .int (1 : Int32)), (5, .int r9), (0, .ref (X.2.2 0)), (1, .int v1), (2, .int v2), (3, .int v3), (4, .int v4)]) dX10_crew_60 (Nat.le_of_ble_eq_true rfl) rfl ?_
          exact gv_sub [2, 0] rfl (t_X10_crew_62 S FU M10 (1 : Int32) h)
        · refine gv_iload 56 S 0 dX10_crew_56 rfl ?_
          exact gv_iret 58 S h dX10_crew_58
      · refine gv_bipush 32 S (-2 : Int32) dX10_crew_32 (by decide) ?_
        exact gv_iret 34 S h dX10_crew_34
  · refine gv_iconst 12 S (-1 : Int32) dX10_crew_12 (by decide) ?_
    exact gv_iret 13 S h dX10_crew_13
theorem mi_X10_balance_10 : ∀ w ∈ u_ws RX10 TX10 12, w ∈ wsX10_balance := by decide +kernel
theorem mf_X10_balance_32 : MF wsX10_balance RX10 32 9 1 := ⟨RX10, TX10, 12, rfl, by decide, mi_X10_balance_10, by decide +kernel⟩
abbrev rm_X10_balance : Room := { frames := 3, cells := 0, slots := 0, locals := 63 }
set_option maxHeartbeats 4000000 in
set_option maxRecDepth 100000 in
theorem c_X10_balance (l : Launch) (X : GE) (M : MM) (v1 : Int32) (v2 : Int32) (r : Int32) (h : f_X10_balance M v1 v2 = some r) : CTi l yX10_balance wsX10_balance rm_X10_balance X [.ref (X.2.2 0), .int v1, .int v2] M r M := by
  refine ct_i (own := RX10) (by decide +kernel) rfl rfl (Nat.le_of_ble_eq_true rfl) (lv0 := [(0, .ref (X.2.2 0)), (1, .int v1), (2, .int v2)]) rfl ?_
  intro p e s m args below meth c S
  unfold f_X10_balance at h
  refine gv_aload_n 0 S 0 0 dX10_balance_0 rfl rfl ?_
  refine gv_get 1 S (hF_0_loft X) mf_X10_balance_32 dX10_balance_1 ?_
  refine gv_iload_n 4 S 1 1 dX10_balance_4 rfl rfl ?_
  obtain ⟨r1, hc2, h⟩ := br_some h
  refine gv_cVi 5 S (As := [.int v1]) (rest := []) (c_X1_has l X M v1 r1 hc2) (hO_20 X) rfl (cwV 1 S.1.2.2.2.2 gX10_balance_X1_has rfl rfl rfl (by decide +kernel) ⟨Nat.le_of_ble_eq_true rfl, Nat.le_of_ble_eq_true rfl⟩) rfl rfl (Nat.le_of_ble_eq_true rfl) dX10_balance_5 ?_
  refine gv_if_ne 8 S 13 h dX10_balance_8 (by decide) (fun h => ?_) (fun h => ?_)
  · refine gv_iload_n 13 S 2 2 dX10_balance_13 rfl rfl ?_
    obtain ⟨r3, hc4, h⟩ := br_some h
    refine gv_cSi 14 S (As := [.int v2]) (rest := []) (c_X10_isDigit l X M v2 r3 hc4) (va_cwS 1 S.1.2.2.2.2 gX10_balance_X10_isDigit rfl rfl rfl (by decide +kernel) ⟨Nat.le_of_ble_eq_true rfl, Nat.le_of_ble_eq_true rfl⟩) rfl rfl (Nat.le_of_ble_eq_true rfl) dX10_balance_14 ?_
    refine gv_if_eq 17 S 32 h dX10_balance_17 (by decide) (fun h => ?_) (fun h => ?_)
    · refine gv_bipush 32 S (-2 : Int32) dX10_balance_32 (by decide) ?_
      exact gv_iretR 34 S h dX10_balance_34
    · refine gv_aload_n 20 S 0 0 dX10_balance_20 rfl rfl ?_
      refine gv_get 21 S (hF_0_loft X) mf_X10_balance_32 dX10_balance_21 ?_
      refine gv_iload_n 24 S 1 1 dX10_balance_24 rfl rfl ?_
      refine gv_iload_n 25 S 2 2 dX10_balance_25 rfl rfl ?_
      obtain ⟨r5, hc6, h⟩ := br_some h
      refine gv_cVi 26 S (As := [.int v1, .int v2]) (rest := []) (c_X1_balanceOf l X M v1 v2 r5 hc6) (hO_20 X) rfl (cwV 2 S.1.2.2.2.2 gX10_balance_X1_balanceOf rfl rfl rfl (by decide +kernel) ⟨Nat.le_of_ble_eq_true rfl, Nat.le_of_ble_eq_true rfl⟩) rfl rfl (Nat.le_of_ble_eq_true rfl) dX10_balance_26 ?_
      refine gv_goto 29 S 34 dX10_balance_29 (by decide) ?_
      exact gv_iretR 34 S h dX10_balance_34
  · refine gv_iconst 11 S (-1 : Int32) dX10_balance_11 (by decide) ?_
    exact gv_iretR 12 S h dX10_balance_12
theorem mi_X10_reading_10 : ∀ w ∈ u_ws RX10 TX10 12, w ∈ wsX10_reading := by decide +kernel
theorem mf_X10_reading_32 : MF wsX10_reading RX10 32 9 1 := ⟨RX10, TX10, 12, rfl, by decide, mi_X10_reading_10, by decide +kernel⟩
theorem mf_X10_reading_46 : MF wsX10_reading RX10 46 9 5 := ⟨RX10, TX10, 12, rfl, by decide, mi_X10_reading_10, by decide +kernel⟩
theorem mi_X10_reading_5 : ∀ w ∈ u_ws RX5 TX5 4, w ∈ wsX10_reading := by decide +kernel
theorem mf_X10_reading_114 : MF wsX10_reading RX10 114 5 3 := ⟨RX5, TX5, 4, rfl, by decide, mi_X10_reading_5, by decide +kernel⟩
abbrev rm_X10_reading : Room := { frames := 1, cells := 0, slots := 0, locals := 23 }
set_option maxHeartbeats 4000000 in
set_option maxRecDepth 100000 in
theorem c_X10_reading (l : Launch) (X : GE) (M : MM) (v1 : Int32) (v2 : Int32) (v3 : Int32) (r : Int32) (M' : MM) (h : f_X10_reading M v1 v2 v3 = some (r, M')) : CTi l yX10_reading wsX10_reading rm_X10_reading X [.ref (X.2.2 0), .int v1, .int v2, .int v3] M r M' := by
  refine ct_i (own := RX10) (by decide +kernel) rfl rfl (Nat.le_of_ble_eq_true rfl) (lv0 := [(0, .ref (X.2.2 0)), (1, .int v1), (2, .int v2), (3, .int v3)]) rfl ?_
  intro p e s m args below meth c S
  unfold f_X10_reading at h
  refine gv_aload_n 0 S 0 0 dX10_reading_0 rfl rfl ?_
  refine gv_get 1 S (hF_0_loft X) mf_X10_reading_32 dX10_reading_1 ?_
  refine gv_iload_n 4 S 1 1 dX10_reading_4 rfl rfl ?_
  obtain ⟨r1, hc2, h⟩ := br_some h
  refine gv_cVi 5 S (As := [.int v1]) (rest := []) (c_X1_has l X M v1 r1 hc2) (hO_20 X) rfl (cwV 1 S.1.2.2.2.2 gX10_reading_X1_has rfl rfl rfl (by decide +kernel) ⟨Nat.le_of_ble_eq_true rfl, Nat.le_of_ble_eq_true rfl⟩) rfl rfl (Nat.le_of_ble_eq_true rfl) dX10_reading_5 ?_
  refine gv_if_ne 8 S 13 h dX10_reading_8 (by decide) (fun h => ?_) (fun h => ?_)
  · refine gv_iload_n 13 S 2 2 dX10_reading_13 rfl rfl ?_
    refine gv_iconst 14 S (1 : Int32) dX10_reading_14 (by decide) ?_
    refine gv_bipush 15 S (9 : Int32) dX10_reading_15 (by decide) ?_
    obtain ⟨r3, hc4, h⟩ := br_some h
    refine gv_cSi 17 S (As := [.int v2, .int (1 : Int32), .int (9 : Int32)]) (rest := []) (c_X10_within l X M v2 (1 : Int32) (9 : Int32) r3 hc4) (va_cwS 3 S.1.2.2.2.2 gX10_reading_X10_within rfl rfl rfl (by decide +kernel) ⟨Nat.le_of_ble_eq_true rfl, Nat.le_of_ble_eq_true rfl⟩) rfl rfl (Nat.le_of_ble_eq_true rfl) dX10_reading_17 ?_
    refine gv_if_eq 20 S 33 h dX10_reading_20 (by decide) (fun h => ?_) (fun h => ?_)
    · refine gv_bipush 33 S (-2 : Int32) dX10_reading_33 (by decide) ?_
      exact gv_iret 35 S h dX10_reading_35
    · refine gv_iload_n 23 S 3 3 dX10_reading_23 rfl rfl ?_
      refine gv_iconst 24 S (0 : Int32) dX10_reading_24 (by decide) ?_
      refine gv_bipush 25 S (81 : Int32) dX10_reading_25 (by decide) ?_
      obtain ⟨r5, hc6, h⟩ := br_some h
      refine gv_cSi 27 S (As := [.int v3, .int (0 : Int32), .int (81 : Int32)]) (rest := []) (c_X10_within l X M v3 (0 : Int32) (81 : Int32) r5 hc6) (va_cwS 3 S.1.2.2.2.2 gX10_reading_X10_within rfl rfl rfl (by decide +kernel) ⟨Nat.le_of_ble_eq_true rfl, Nat.le_of_ble_eq_true rfl⟩) rfl rfl (Nat.le_of_ble_eq_true rfl) dX10_reading_27 ?_
      refine gv_if_ne 30 S 36 h dX10_reading_30 (by decide) (fun h => ?_) (fun h => ?_)
      · refine gv_aload_n 36 S 0 0 dX10_reading_36 rfl rfl ?_
        refine gv_get 37 S (hF_0_readings X) mf_X10_reading_46 dX10_reading_37 ?_
        refine gv_get 40 S (hF_61_count X) mf_X10_reading_114 dX10_reading_40 ?_
        refine gv_bipush 43 S (8 : Int32) dX10_reading_43 (by decide) ?_
        refine gv_icmp_lt 45 S 51 h dX10_reading_45 (by decide) (fun h => ?_) (fun h => ?_)
        · refine gv_aload_n 51 S 0 0 dX10_reading_51 rfl rfl ?_
          refine gv_get 52 S (hF_0_readings X) mf_X10_reading_46 dX10_reading_52 ?_
          refine gv_get 55 S (hF_61_count X) mf_X10_reading_114 dX10_reading_55 ?_
          refine gv_nmi h (fun x7 h => ?_)
          refine gv_istore 58 S (lv' := [(4, .int x7), (0, .ref (X.2.2 0)), (1, .int v1), (2, .int v2), (3, .int v3)]) dX10_reading_58 (Nat.le_of_ble_eq_true rfl) rfl ?_
          refine gv_aload_n 60 S 0 1 dX10_reading_60 rfl rfl ?_
          refine gv_get 61 S (hF_0_readings X) mf_X10_reading_46 dX10_reading_61 ?_
          refine gv_iload_n 64 S 1 2 dX10_reading_64 rfl rfl ?_
          refine gv_iload_n 65 S 2 3 dX10_reading_65 rfl rfl ?_
          refine gv_iload_n 66 S 3 4 dX10_reading_66 rfl rfl ?_
          obtain ⟨M9, hc10, h⟩ := br_some h
          refine gv_cVv 67 S (As := [.int v1, .int v2, .int v3]) (rest := []) (c_X5_add l X M v1 v2 v3 M9 hc10) (hO_61 X) rfl (cwV 3 S.1.2.2.2.2 gX10_reading_X5_add rfl rfl rfl (by decide +kernel) ⟨Nat.le_of_ble_eq_true rfl, Nat.le_of_ble_eq_true rfl⟩) rfl rfl (Nat.le_of_ble_eq_true rfl) dX10_reading_67 ?_
          refine gv_iload 70 S 0 dX10_reading_70 rfl ?_
          exact gv_iret 72 S h dX10_reading_72
        · refine gv_bipush 48 S (-4 : Int32) dX10_reading_48 (by decide) ?_
          exact gv_iret 50 S h dX10_reading_50
      · refine gv_bipush 33 S (-2 : Int32) dX10_reading_33 (by decide) ?_
        exact gv_iret 35 S h dX10_reading_35
  · refine gv_iconst 11 S (-1 : Int32) dX10_reading_11 (by decide) ?_
    exact gv_iret 12 S h dX10_reading_12
theorem mi_X10_back_10 : ∀ w ∈ u_ws RX10 TX10 12, w ∈ wsX10_back := by decide +kernel
theorem mf_X10_back_46 : MF wsX10_back RX10 46 9 5 := ⟨RX10, TX10, 12, rfl, by decide, mi_X10_back_10, by decide +kernel⟩
theorem mi_X10_back_5 : ∀ w ∈ u_ws RX5 TX5 4, w ∈ wsX10_back := by decide +kernel
theorem mf_X10_back_114 : MF wsX10_back RX10 114 5 3 := ⟨RX5, TX5, 4, rfl, by decide, mi_X10_back_5, by decide +kernel⟩
theorem mp_X10_back_114 : MP wsX10_back RX10 114 5 3 .int := ⟨RX5, TX5, 4, tyX5, rfl, by decide, mi_X10_back_5, by decide +kernel, tyX5_ok, nmX5, rfl, by decide +kernel⟩
abbrev rm_X10_back : Room := { frames := 1, cells := 0, slots := 0, locals := 22 }
set_option maxHeartbeats 4000000 in
set_option maxRecDepth 100000 in
theorem c_X10_back (l : Launch) (X : GE) (M : MM) (v1 : Int32) (r : Int32) (M' : MM) (h : f_X10_back M v1 = some (r, M')) : CTi l yX10_back wsX10_back rm_X10_back X [.ref (X.2.2 0), .int v1] M r M' := by
  refine ct_i (own := RX10) (by decide +kernel) rfl rfl (Nat.le_of_ble_eq_true rfl) (lv0 := [(0, .ref (X.2.2 0)), (1, .int v1)]) rfl ?_
  intro p e s m args below meth c S
  unfold f_X10_back at h
  refine gv_iload_n 0 S 1 1 dX10_back_0 rfl rfl ?_
  refine gv_iconst 1 S (0 : Int32) dX10_back_1 (by decide) ?_
  refine gv_aload_n 2 S 0 0 dX10_back_2 rfl rfl ?_
  refine gv_get 3 S (hF_0_readings X) mf_X10_back_46 dX10_back_3 ?_
  refine gv_get 6 S (hF_61_count X) mf_X10_back_114 dX10_back_6 ?_
  obtain ⟨r1, hc2, h⟩ := br_some h
  refine gv_cSi 9 S (As := [.int v1, .int (0 : Int32), .int (M 61 3)]) (rest := []) (c_X10_within l X M v1 (0 : Int32) (M 61 3) r1 hc2) (va_cwS 3 S.1.2.2.2.2 gX10_back_X10_within rfl rfl rfl (by decide +kernel) ⟨Nat.le_of_ble_eq_true rfl, Nat.le_of_ble_eq_true rfl⟩) rfl rfl (Nat.le_of_ble_eq_true rfl) dX10_back_9 ?_
  refine gv_if_ne 12 S 18 h dX10_back_12 (by decide) (fun h => ?_) (fun h => ?_)
  · refine gv_aload_n 18 S 0 0 dX10_back_18 rfl rfl ?_
    refine gv_get 19 S (hF_0_readings X) mf_X10_back_46 dX10_back_19 ?_
    refine gv_dup 22 S dX10_back_22 rfl ?_
    refine gv_get 23 S (hF_61_count X) mf_X10_back_114 dX10_back_23 ?_
    refine gv_iload_n 26 S 1 1 dX10_back_26 rfl rfl ?_
    refine gv_isub 27 S dX10_back_27 ?_
    refine gv_put 28 S h (hP_61_count X) mp_X10_back_114 rfl rfl dX10_back_28 (fun M3 h => ?_)
    refine gv_aload_n 31 S 0 0 dX10_back_31 rfl rfl ?_
    refine gv_get 32 S (hF_0_readings X) mf_X10_back_46 dX10_back_32 ?_
    refine gv_get 35 S (hF_61_count X) mf_X10_back_114 dX10_back_35 ?_
    exact gv_iret 38 S h dX10_back_38
  · refine gv_bipush 15 S (-2 : Int32) dX10_back_15 (by decide) ?_
    exact gv_iret 17 S h dX10_back_17
