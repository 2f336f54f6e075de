theorem mi_X3_bringBack_3 : ∀ w ∈ u_ws RX3 TX3 3, w ∈ wsX3_bringBack := by decide +kernel
theorem mf_X3_bringBack_22 : MF wsX3_bringBack RX3 22 3 2 := ⟨RX3, TX3, 3, rfl, by decide, mi_X3_bringBack_3, by decide +kernel⟩
theorem mp_X3_bringBack_22 : MP wsX3_bringBack RX3 22 3 2 .int := ⟨RX3, TX3, 3, tyX3, rfl, by decide, mi_X3_bringBack_3, by decide +kernel, tyX3_ok, nmX3, rfl, by decide +kernel⟩
theorem mf_X3_bringBack_18 : MF wsX3_bringBack RX3 18 3 1 := ⟨RX3, TX3, 3, rfl, by decide, mi_X3_bringBack_3, by decide +kernel⟩
theorem mp_X3_bringBack_18 : MP wsX3_bringBack RX3 18 3 1 .int := ⟨RX3, TX3, 3, tyX3, rfl, by decide, mi_X3_bringBack_3, by decide +kernel, tyX3_ok, nmX3, rfl, by decide +kernel⟩
theorem mf_X3_bringBack_11 : MF wsX3_bringBack RX3 11 3 0 := ⟨RX3, TX3, 3, rfl, by decide, mi_X3_bringBack_3, by decide +kernel⟩
abbrev rm_X3_bringBack : Room := { frames := 2, cells := 0, slots := 0, locals := 39 }
set_option maxHeartbeats 4000000 in
set_option maxRecDepth 100000 in
theorem c_X3_bringBack (l : Launch) (X : GE) (M : MM) (M' : MM) (h : f_X3_bringBack M = some M') : CTv l yX3_bringBack wsX3_bringBack rm_X3_bringBack X [.ref (X.2.2 27), .ref (X.2.2 23)] M M' := by
  refine ct_v (own := RX3) (by decide +kernel) rfl rfl (Nat.le_of_ble_eq_true rfl) (lv0 := [(0, .ref (X.2.2 27)), (1, .ref (X.2.2 23))]) rfl ?_
  intro p e s m args below meth c S
  unfold f_X3_bringBack at h
  refine gv_aload_n 0 S 0 0 dX3_bringBack_0 rfl rfl ?_
  refine gv_aload_n 1 S 0 0 dX3_bringBack_1 rfl rfl ?_
  refine gv_get 2 S (hF_27_next X) mf_X3_bringBack_22 dX3_bringBack_2 ?_
  refine gv_bipush 5 S (8 : Int32) dX3_bringBack_5 (by decide) ?_
  refine gv_iadd 7 S dX3_bringBack_7 ?_
  refine gv_iconst 8 S (1 : Int32) dX3_bringBack_8 (by decide) ?_
  refine gv_isub 9 S dX3_bringBack_9 ?_
  refine gv_bipush 10 S (8 : Int32) dX3_bringBack_10 (by decide) ?_
  refine gv_irem 12 S (by decide) dX3_bringBack_12 ?_
  refine gv_put 13 S h (hP_27_next X) mp_X3_bringBack_22 rfl rfl dX3_bringBack_13 (fun M1 h => ?_)
  refine gv_aload_n 16 S 0 0 dX3_bringBack_16 rfl rfl ?_
  refine gv_dup 17 S dX3_bringBack_17 rfl ?_
  refine gv_get 18 S (hF_27_known X) mf_X3_bringBack_18 dX3_bringBack_18 ?_
  refine gv_iconst 21 S (1 : Int32) dX3_bringBack_21 (by decide) ?_
  refine gv_isub 22 S dX3_bringBack_22 ?_
  refine gv_put 23 S h (hP_27_known X) mp_X3_bringBack_18 rfl rfl dX3_bringBack_23 (fun M2 h => ?_)
  refine gv_aload_n 26 S 1 1 dX3_bringBack_26 rfl rfl ?_
  refine gv_aload_n 27 S 0 0 dX3_bringBack_27 rfl rfl ?_
  refine gv_get 28 S (hF_27_rigs X) mf_X3_bringBack_11 dX3_bringBack_28 ?_
  refine gv_aload_n 31 S 0 0 dX3_bringBack_31 rfl rfl ?_
  refine gv_get 32 S (hF_27_next X) mf_X3_bringBack_22 dX3_bringBack_32 ?_
  refine gv_aald 35 S h (hR_28 X) rfl dX3_bringBack_35 (fun hq3 h => ?_)
  obtain ⟨M5, hc6, h⟩ := br_some h
  refine gv_cVv 36 S (As := [.ref (X.2.2 (29 + 4 * (M2 27 2).toNatClampNeg))]) (rest := []) (c_X6_takeMoved l X M2 23 (29 + 4 * (M2 27 2).toNatClampNeg) isRg_now (isRg_ps hq3) M5 hc6) (hO_23 X) rfl (cwV 1 S.1.2.2.2.2 gX3_bringBack_X6_takeMoved rfl rfl rfl (by decide +kernel) ⟨Nat.le_of_ble_eq_true rfl, Nat.le_of_ble_eq_true rfl⟩) rfl rfl (Nat.le_of_ble_eq_true rfl) dX3_bringBack_36 ?_
  exact gv_vret 39 S h dX3_bringBack_39
theorem mi_X4_setTried_1 : ∀ w ∈ u_ws RX1 TX1 4, w ∈ wsX4_setTried := by decide +kernel
theorem mf_X4_setTried_38 : MF wsX4_setTried RX4 38 1 2 := ⟨RX1, TX1, 4, rfl, by decide, mi_X4_setTried_1, by decide +kernel⟩
theorem mi_X4_setTried_6 : ∀ w ∈ u_ws RX6 TX6 6, w ∈ wsX4_setTried := by decide +kernel
theorem mf_X4_setTried_57 : MF wsX4_setTried RX4 57 6 2 := ⟨RX6, TX6, 6, rfl, by decide, mi_X4_setTried_6, by decide +kernel⟩
theorem mi_X4_setTried_4 : ∀ w ∈ u_ws RX4 TX4 6, w ∈ wsX4_setTried := by decide +kernel
theorem mf_X4_setTried_11 : MF wsX4_setTried RX4 11 4 0 := ⟨RX4, TX4, 6, rfl, by decide, mi_X4_setTried_4, by decide +kernel⟩
theorem mf_X4_setTried_67 : MF wsX4_setTried RX4 67 6 4 := ⟨RX6, TX6, 6, rfl, by decide, mi_X4_setTried_6, by decide +kernel⟩
theorem mf_X4_setTried_15 : MF wsX4_setTried RX4 15 4 1 := ⟨RX4, TX4, 6, rfl, by decide, mi_X4_setTried_4, by decide +kernel⟩
abbrev rm_X4_setTried : Room := { frames := 3, cells := 0, slots := 0, locals := 57 }
set_option maxHeartbeats 4000000 in
set_option maxRecDepth 100000 in
theorem t_X4_setTried_104 {p : Program} {l : Launch} {e : Env} {s : State} {m : MethodId} {args : Array Value} {below : List Frame} {meth : Method} {c : Code} {X : GE} {M' : MM} (S : CX p s m args meth c cX4_setTried 8 wsX4_setTried RX4 none X) (rec54 : MM → Int32 → Int32 → Int32 → Int32 → Option MM) (hrec54 : ∀ (M : MM) (v2 : Int32) (v3 : Int32) (v4 : Int32) (v5 : Int32), rec54 M v2 v3 v4 v5 = some M' → V p l e (headSpec wsX4_setTried rm_X4_setTried).room s m args below meth c 8 X (MQ below (gQv X M') args s 0 0 (gA X)) M 54 [(0, .ref (X.2.2 71)), (1, .ref (X.2.2 20)), (2, .int v2), (3, .int v3), (4, .int v4), (5, .int v5)] []) (M : MM) (v2 : Int32) (v3 : Int32) (v4 : Int32) (v5 : Int32) (v6 : Int32) (s0 : Int32) (h : g_X4_setTried_104 rec54 M v2 v3 v4 v5 v6 s0 = some M') : V p l e (headSpec wsX4_setTried rm_X4_setTried).room s m args below meth c 8 X (MQ below (gQv X M') args s 0 0 (gA X)) M 104 [(0, .ref (X.2.2 71)), (1, .ref (X.2.2 20)), (2, .int v2), (3, .int v3), (4, .int v4), (5, .int v5), (6, .int v6)] [.int s0] := by
  unfold g_X4_setTried_104 at h
  refine gv_istore 104 S (lv' := [(7, .int s0), (0, .ref (X.2.2 71)), (1, .ref (X.2.2 20)), (2, .int v2), (3, .int v3), (4, .int v4), (5, .int v5), (6, .int v6)]) dX4_setTried_104 (Nat.le_of_ble_eq_true rfl) rfl ?_
  refine gv_aload_n 106 S 0 1 dX4_setTried_106 rfl rfl ?_
  refine gv_get 107 S (hF_71_cost X) mf_X4_setTried_15 dX4_setTried_107 ?_
  refine gv_iload 110 S 6 dX4_setTried_110 rfl ?_
  refine gv_iload 112 S 7 dX4_setTried_112 rfl ?_
  refine gv_if_ne 114 S 121 h dX4_setTried_114 (by decide) (fun h => ?_) (fun h => ?_)
  · refine gv_iload 121 S 0 dX4_setTried_121 rfl ?_
    refine gv_iast 123 S h (hI_73 X) dX4_setTried_123 (fun M9 h => ?_)
    refine gv_iinc 124 S 6 (v5 + (1 : Int32)) (lv' := [(5, .int (v5 + (1 : Int32))), (7, .int s0), (0, .ref (X.2.2 71)), (1, .ref (X.2.2 20)), (2, .int v2), (3, .int v3), (4, .int v4), (6, .int v6)]) dX4_setTried_124 rfl rfl (Nat.le_of_ble_eq_true rfl) rfl ?_
    refine gv_goto 127 S 54 dX4_setTried_127 (by decide) ?_
    exact gv_sub [2, 3, 4, 5, 6, 0] rfl (hrec54 M9 v2 v3 v4 (v5 + (1 : Int32)) h)
  · refine gv_iconst 117 S (0 : Int32) dX4_setTried_117 (by decide) ?_
    refine gv_goto 118 S 123 dX4_setTried_118 (by decide) ?_
    refine gv_iast 123 S h (hI_73 X) dX4_setTried_123 (fun M10 h => ?_)
    refine gv_iinc 124 S 6 (v5 + (1 : Int32)) (lv' := [(5, .int (v5 + (1 : Int32))), (7, .int s0), (0, .ref (X.2.2 71)), (1, .ref (X.2.2 20)), (2, .int v2), (3, .int v3), (4, .int v4), (6, .int v6)]) dX4_setTried_124 rfl rfl (Nat.le_of_ble_eq_true rfl) rfl ?_
    refine gv_goto 127 S 54 dX4_setTried_127 (by decide) ?_
    exact gv_sub [2, 3, 4, 5, 6, 0] rfl (hrec54 M10 v2 v3 v4 (v5 + (1 : Int32)) h)
set_option maxHeartbeats 4000000 in
set_option maxRecDepth 100000 in
theorem t_X4_setTried_54 {p : Program} {l : Launch} {e : Env} {s : State} {m : MethodId} {args : Array Value} {below : List Frame} {meth : Method} {c : Code} {X : GE} {M' : MM} (S : CX p s m args meth c cX4_setTried 8 wsX4_setTried RX4 none X) : ∀ (n : Nat) (M : MM) (v2 : Int32) (v3 : Int32) (v4 : Int32) (v5 : Int32) (h : g_X4_setTried_54 n M v2 v3 v4 v5 = some M'), V p l e (headSpec wsX4_setTried rm_X4_setTried).room s m args below meth c 8 X (MQ below (gQv X M') args s 0 0 (gA X)) M 54 [(0, .ref (X.2.2 71)), (1, .ref (X.2.2 20)), (2, .int v2), (3, .int v3), (4, .int v4), (5, .int v5)] [] := by
  intro n
  induction n with
  | zero =>
    intro M v2 v3 v4 v5 h
    rw [g_X4_setTried_54] at h
    cases h
  | succ n ih =>
    intro M v2 v3 v4 v5 h
    rw [g_X4_setTried_54] at h
    refine gv_iload 54 S 5 dX4_setTried_54 rfl ?_
    refine gv_iload_n 56 S 2 2 dX4_setTried_56 rfl rfl ?_
    refine gv_iconst 57 S (1 : Int32) dX4_setTried_57 (by decide) ?_
    refine gv_iadd 58 S dX4_setTried_58 ?_
    refine gv_iconst 59 S (3 : Int32) dX4_setTried_59 (by decide) ?_
    refine gv_imul 60 S dX4_setTried_60 ?_
    refine gv_icmp_ge 61 S 130 h dX4_setTried_61 (by decide) (fun h => ?_) (fun h => ?_)
    · exact gv_vret 130 S h dX4_setTried_130
    · refine gv_aload_n 64 S 0 0 dX4_setTried_64 rfl rfl ?_
      refine gv_get 65 S (hF_71_tried X) mf_X4_setTried_11 dX4_setTried_65 ?_
      refine gv_iload 68 S 5 dX4_setTried_68 rfl ?_
      refine gv_iald 70 S h (hI_72 X) dX4_setTried_70 (fun h => ?_)
      refine gv_iload_n 71 S 3 3 dX4_setTried_71 rfl rfl ?_
      refine gv_isub 72 S dX4_setTried_72 ?_
      refine gv_mabs 73 S (by decide +kernel) (by decide +kernel) (by decide +kernel) (by decide +kernel) (Nat.le_of_ble_eq_true rfl) (Nat.le_of_ble_eq_true rfl) dX4_setTried_73 ?_
      refine gv_nmi h (fun x8 h => ?_)
      refine gv_istore 76 S (lv' := [(6, .int x8), (0, .ref (X.2.2 71)), (1, .ref (X.2.2 20)), (2, .int v2), (3, .int v3), (4, .int v4), (5, .int v5)]) dX4_setTried_76 (Nat.le_of_ble_eq_true rfl) rfl ?_
      refine gv_iload 78 S 5 dX4_setTried_78 rfl ?_
      refine gv_aload_n 80 S 1 2 dX4_setTried_80 rfl rfl ?_
      refine gv_get 81 S (hF_20_now X) mf_X4_setTried_38 dX4_setTried_81 ?_
      refine gv_get 84 S (hF_23_hands X) mf_X4_setTried_67 dX4_setTried_84 ?_
      refine gv_icmp_le 87 S 95 h dX4_setTried_87 (by decide) (fun h => ?_) (fun h => ?_)
      · refine gv_sipush 95 S (1000 : Int32) dX4_setTried_95 (by decide) ?_
        refine gv_iload 98 S 5 dX4_setTried_98 rfl ?_
        refine gv_iload 100 S 0 dX4_setTried_100 rfl ?_
        refine gv_imul 102 S dX4_setTried_102 ?_
        refine gv_iadd 103 S dX4_setTried_103 ?_
        exact gv_sub [1, 2, 3, 4, 5, 6, 0] rfl (t_X4_setTried_104 S (g_X4_setTried_54 n) ih M v2 v3 v4 v5 x8 ((1000 : Int32) + (v4 * x8)) h)
      · refine gv_ldc 90 S (v := (1000000 : Int32)) (by decide +kernel) dX4_setTried_90 ?_
        refine gv_goto 92 S 104 dX4_setTried_92 (by decide) ?_
        exact gv_sub [1, 2, 3, 4, 5, 6, 0] rfl (t_X4_setTried_104 S (g_X4_setTried_54 n) ih M v2 v3 v4 v5 x8 (1000000 : Int32) h)
set_option maxHeartbeats 4000000 in
set_option maxRecDepth 100000 in
theorem c_X4_setTried (l : Launch) (X : GE) (M : MM) (v2 : Int32) (M' : MM) (h : f_X4_setTried M v2 = some M') : CTv l yX4_setTried wsX4_setTried rm_X4_setTried X [.ref (X.2.2 71), .ref (X.2.2 20), .int v2] M M' := by
  refine ct_v (own := RX4) (by decide +kernel) rfl rfl (Nat.le_of_ble_eq_true rfl) (lv0 := [(0, .ref (X.2.2 71)), (1, .ref (X.2.2 20)), (2, .int v2)]) rfl ?_
  intro p e s m args below meth c S
  unfold f_X4_setTried at h
  refine gv_aload_n 0 S 1 1 dX4_setTried_0 rfl rfl ?_
  refine gv_get 1 S (hF_20_now X) mf_X4_setTried_38 dX4_setTried_1 ?_
  refine gv_get 4 S (hF_23_height X) mf_X4_setTried_57 dX4_setTried_4 ?_
  refine gv_iload_n 7 S 2 2 dX4_setTried_7 rfl rfl ?_
  refine gv_iald 8 S h (hI_26 X) dX4_setTried_8 (fun h => ?_)
  refine gv_nmi h (fun x1 h => ?_)
  refine gv_istore_n 9 S 3 (lv' := [(3, .int x1), (0, .ref (X.2.2 71)), (1, .ref (X.2.2 20)), (2, .int v2)]) dX4_setTried_9 rfl (Nat.le_of_ble_eq_true rfl) rfl ?_
  refine gv_aload_n 10 S 1 2 dX4_setTried_10 rfl rfl ?_
  refine gv_iload_n 11 S 2 3 dX4_setTried_11 rfl rfl ?_
  obtain ⟨r2, hc3, h⟩ := br_some h
  refine gv_cVi 12 S (As := [.int v2]) (rest := []) (c_X1_pull l X M v2 r2 hc3) (hO_20 X) rfl (cwV 1 S.1.2.2.2.2 gX4_setTried_X1_pull rfl rfl rfl (by decide +kernel) ⟨Nat.le_of_ble_eq_true rfl, Nat.le_of_ble_eq_true rfl⟩) rfl rfl (Nat.le_of_ble_eq_true rfl) dX4_setTried_12 ?_
  refine gv_istore 15 S (lv' := [(4, .int r2), (3, .int x1), (0, .ref (X.2.2 71)), (1, .ref (X.2.2 20)), (2, .int v2)]) dX4_setTried_15 (Nat.le_of_ble_eq_true rfl) rfl ?_
  refine gv_aload_n 17 S 0 2 dX4_setTried_17 rfl rfl ?_
  refine gv_get 18 S (hF_71_tried X) mf_X4_setTried_11 dX4_setTried_18 ?_
  refine gv_iload_n 21 S 2 4 dX4_setTried_21 rfl rfl ?_
  refine gv_iconst 22 S (3 : Int32) dX4_setTried_22 (by decide) ?_
  refine gv_imul 23 S dX4_setTried_23 ?_
  refine gv_iconst 24 S (0 : Int32) dX4_setTried_24 (by decide) ?_
  refine gv_iast 25 S h (hI_72 X) dX4_setTried_25 (fun M4 h => ?_)
  refine gv_aload_n 26 S 0 2 dX4_setTried_26 rfl rfl ?_
  refine gv_get 27 S (hF_71_tried X) mf_X4_setTried_11 dX4_setTried_27 ?_
  refine gv_iload_n 30 S 2 4 dX4_setTried_30 rfl rfl ?_
  refine gv_iconst 31 S (3 : Int32) dX4_setTried_31 (by decide) ?_
  refine gv_imul 32 S dX4_setTried_32 ?_
  refine gv_iconst 33 S (1 : Int32) dX4_setTried_33 (by decide) ?_
  refine gv_iadd 34 S dX4_setTried_34 ?_
  refine gv_iload_n 35 S 3 1 dX4_setTried_35 rfl rfl ?_
  refine gv_iast 36 S h (hI_72 X) dX4_setTried_36 (fun M5 h => ?_)
  refine gv_aload_n 37 S 0 2 dX4_setTried_37 rfl rfl ?_
  refine gv_get 38 S (hF_71_tried X) mf_X4_setTried_11 dX4_setTried_38 ?_
  refine gv_iload_n 41 S 2 4 dX4_setTried_41 rfl rfl ?_
  refine gv_iconst 42 S (3 : Int32) dX4_setTried_42 (by decide) ?_
  refine gv_imul 43 S dX4_setTried_43 ?_
  refine gv_iconst 44 S (2 : Int32) dX4_setTried_44 (by decide) ?_
  refine gv_iadd 45 S dX4_setTried_45 ?_
  refine gv_bipush 46 S (9 : Int32) dX4_setTried_46 (by decide) ?_
  refine gv_iast 48 S h (hI_72 X) dX4_setTried_48 (fun M6 h => ?_)
  refine gv_iload_n 49 S 2 4 dX4_setTried_49 rfl rfl ?_
  refine gv_iconst 50 S (3 : Int32) dX4_setTried_50 (by decide) ?_
  refine gv_imul 51 S dX4_setTried_51 ?_
  refine gv_nmi h (fun x7 h => ?_)
  refine gv_istore 52 S (lv' := [(5, .int x7), (4, .int r2), (3, .int x1), (0, .ref (X.2.2 71)), (1, .ref (X.2.2 20)), (2, .int v2)]) dX4_setTried_52 (Nat.le_of_ble_eq_true rfl) rfl ?_
  exact gv_sub [3, 4, 5, 2, 1, 0] rfl (t_X4_setTried_54 S FU M6 v2 x1 r2 x7 h)
theorem mi_X4_costFrom_4 : ∀ w ∈ u_ws RX4 TX4 6, w ∈ wsX4_costFrom := by decide +kernel
theorem mf_X4_costFrom_11 : MF wsX4_costFrom RX4 11 4 0 := ⟨RX4, TX4, 6, rfl, by decide, mi_X4_costFrom_4, by decide +kernel⟩
theorem mf_X4_costFrom_18 : MF wsX4_costFrom RX4 18 4 2 := ⟨RX4, TX4, 6, rfl, by decide, mi_X4_costFrom_4, by decide +kernel⟩
theorem mf_X4_costFrom_15 : MF wsX4_costFrom RX4 15 4 1 := ⟨RX4, TX4, 6, rfl, by decide, mi_X4_costFrom_4, by decide +kernel⟩
abbrev rm_X4_costFrom : Room := { frames := 2, cells := 0, slots := 0, locals := 35 }
set_option maxHeartbeats 4000000 in
set_option maxRecDepth 100000 in
theorem t_X4_costFrom_46 {p : Program} {l : Launch} {e : Env} {s : State} {m : MethodId} {args : Array Value} {below : List Frame} {meth : Method} {c : Code} {X : GE} {M : MM} {r : Int32} (S : CX p s m args meth c cX4_costFrom 9 wsX4_costFrom RX4 (some .int) X) (v3 : Int32) (v4 : Int32) (v5 : Int32) (v6 : Int32) (v7 : Int32) (s0 : Int32) (h : g_X4_costFrom_46 M v3 v4 v5 v6 v7 s0 = some r) : V p l e (headSpec wsX4_costFrom rm_X4_costFrom).room s m args below meth c 9 X (MQ below (gQi X r M) args s 0 0 (gA X)) M 46 [(0, .ref (X.2.2 71)), (3, .int v3), (4, .int v4), (5, .int v5), (6, .int v6), (7, .int v7)] [.int s0] := by
  unfold g_X4_costFrom_46 at h
  refine gv_iload 46 S 5 dX4_costFrom_46 rfl ?_
  refine gv_icmp_eq 48 S 54 h dX4_costFrom_48 (by decide) (fun h => ?_) (fun h => ?_)
  · refine gv_aload_n 54 S 0 0 dX4_costFrom_54 rfl rfl ?_
    refine gv_get 55 S (hF_71_least X) mf_X4_costFrom_18 dX4_costFrom_55 ?_
    refine gv_iload_n 58 S 3 1 dX4_costFrom_58 rfl rfl ?_
    refine gv_iconst 59 S (1 : Int32) dX4_costFrom_59 (by decide) ?_
    refine gv_iadd 60 S dX4_costFrom_60 ?_
    refine gv_bipush 61 S (10 : Int32) dX4_costFrom_61 (by decide) ?_
    refine gv_imul 63 S dX4_costFrom_63 ?_
    refine gv_iload 64 S 2 dX4_costFrom_64 rfl ?_
    refine gv_iload 66 S 4 dX4_costFrom_66 rfl ?_
    refine gv_mmin 68 S (by decide +kernel) (by decide +kernel) (by decide +kernel) (by decide +kernel) (Nat.le_of_ble_eq_true rfl) (Nat.le_of_ble_eq_true rfl) dX4_costFrom_68 ?_
    refine gv_iadd 71 S dX4_costFrom_71 ?_
    refine gv_iald 72 S h (hI_74 X) dX4_costFrom_72 (fun h => ?_)
    refine gv_nmi h (fun x3 h => ?_)
    refine gv_istore 73 S (lv' := [(8, .int x3), (0, .ref (X.2.2 71)), (3, .int v3), (4, .int v4), (5, .int v5), (6, .int v6), (7, .int v7)]) dX4_costFrom_73 (Nat.le_of_ble_eq_true rfl) rfl ?_
    refine gv_ldc 75 S (v := (1000000 : Int32)) (by decide +kernel) dX4_costFrom_75 ?_
    refine gv_aload_n 77 S 0 1 dX4_costFrom_77 rfl rfl ?_
    refine gv_get 78 S (hF_71_cost X) mf_X4_costFrom_15 dX4_costFrom_78 ?_
    refine gv_iload_n 81 S 3 2 dX4_costFrom_81 rfl rfl ?_
    refine gv_iconst 82 S (3 : Int32) dX4_costFrom_82 (by decide) ?_
    refine gv_imul 83 S dX4_costFrom_83 ?_
    refine gv_iload 84 S 4 dX4_costFrom_84 rfl ?_
    refine gv_iadd 86 S dX4_costFrom_86 ?_
    refine gv_iald 87 S h (hI_73 X) dX4_costFrom_87 (fun h => ?_)
    refine gv_iload 88 S 0 dX4_costFrom_88 rfl ?_
    refine gv_iadd 90 S dX4_costFrom_90 ?_
    refine gv_mmin 91 S (by decide +kernel) (by decide +kernel) (by decide +kernel) (by decide +kernel) (Nat.le_of_ble_eq_true rfl) (Nat.le_of_ble_eq_true rfl) dX4_costFrom_91 ?_
    exact gv_iretR 94 S h dX4_costFrom_94
  · refine gv_ldc 51 S (v := (1000000 : Int32)) (by decide +kernel) dX4_costFrom_51 ?_
    exact gv_iretR 53 S h dX4_costFrom_53
set_option maxHeartbeats 4000000 in
set_option maxRecDepth 100000 in
theorem c_X4_costFrom (l : Launch) (X : GE) (M : MM) (v2 : Int32) (v3 : Int32) (v4 : Int32) (v5 : Int32) (r : Int32) (h : f_X4_costFrom M v2 v3 v4 v5 = some r) : CTi l yX4_costFrom wsX4_costFrom rm_X4_costFrom X [.ref (X.2.2 71), .ref (X.2.2 20), .int v2, .int v3, .int v4, .int v5] M r M := by
  refine ct_i (own := RX4) (by decide +kernel) rfl rfl (Nat.le_of_ble_eq_true rfl) (lv0 := [(0, .ref (X.2.2 71)), (1, .ref (X.2.2 20)), (2, .int v2), (3, .int v3), (4, .int v4), (5, .int v5)]) rfl ?_
  intro p e s m args below meth c S
  unfold f_X4_costFrom at h
  refine gv_aload_n 0 S 1 1 dX4_costFrom_0 rfl rfl ?_
  refine gv_iload_n 1 S 3 3 dX4_costFrom_1 rfl rfl ?_
  refine gv_aload_n 2 S 0 0 dX4_costFrom_2 rfl rfl ?_
  refine gv_get 3 S (hF_71_tried X) mf_X4_costFrom_11 dX4_costFrom_3 ?_
  refine gv_iload_n 6 S 3 3 dX4_costFrom_6 rfl rfl ?_
  refine gv_iconst 7 S (3 : Int32) dX4_costFrom_7 (by decide) ?_
  refine gv_imul 8 S dX4_costFrom_8 ?_
  refine gv_iload 9 S 5 dX4_costFrom_9 rfl ?_
  refine gv_iadd 11 S dX4_costFrom_11 ?_
  refine gv_iald 12 S h (hI_72 X) dX4_costFrom_12 (fun h => ?_)
  obtain ⟨r1, hc2, h⟩ := br_some h
  refine gv_cVi 13 S (As := [.int v3, .int (M 72 ((v3 * (3 : Int32)) + v5).toNatClampNeg)]) (rest := []) (c_X1_edge l X M v3 (M 72 ((v3 * (3 : Int32)) + v5).toNatClampNeg) r1 hc2) (hO_20 X) rfl (cwV 2 S.1.2.2.2.2 gX4_costFrom_X1_edge rfl rfl rfl (by decide +kernel) ⟨Nat.le_of_ble_eq_true rfl, Nat.le_of_ble_eq_true rfl⟩) rfl rfl (Nat.le_of_ble_eq_true rfl) dX4_costFrom_13 ?_
  refine gv_istore 16 S (lv' := [(6, .int r1), (0, .ref (X.2.2 71)), (1, .ref (X.2.2 20)), (2, .int v2), (3, .int v3), (4, .int v4), (5, .int v5)]) dX4_costFrom_16 (Nat.le_of_ble_eq_true rfl) rfl ?_
  refine gv_iload_n 18 S 2 3 dX4_costFrom_18 rfl rfl ?_
  refine gv_iload_n 19 S 3 4 dX4_costFrom_19 rfl rfl ?_
  refine gv_ishr 20 S dX4_costFrom_20 ?_
  refine gv_iconst 21 S (1 : Int32) dX4_costFrom_21 (by decide) ?_
  refine gv_iand 22 S dX4_costFrom_22 ?_
  refine gv_iconst 23 S (1 : Int32) dX4_costFrom_23 (by decide) ?_
  refine gv_icmp_ne 24 S 31 h dX4_costFrom_24 (by decide) (fun h => ?_) (fun h => ?_)
  · refine gv_iconst 31 S (0 : Int32) dX4_costFrom_31 (by decide) ?_
    refine gv_istore 32 S (lv' := [(7, .int (0 : Int32)), (6, .int r1), (0, .ref (X.2.2 71)), (1, .ref (X.2.2 20)), (2, .int v2), (3, .int v3), (4, .int v4), (5, .int v5)]) dX4_costFrom_32 (Nat.le_of_ble_eq_true rfl) rfl ?_
    refine gv_iload 34 S 1 dX4_costFrom_34 rfl ?_
    refine gv_iload 36 S 6 dX4_costFrom_36 rfl ?_
    refine gv_icmp_ge 38 S 45 h dX4_costFrom_38 (by decide) (fun h => ?_) (fun h => ?_)
    · refine gv_iconst 45 S (0 : Int32) dX4_costFrom_45 (by decide) ?_
      exact gv_sub [2, 5, 6, 7, 1, 0] rfl (t_X4_costFrom_46 S v3 v4 v5 r1 (0 : Int32) (0 : Int32) h)
    · refine gv_iconst 41 S (1 : Int32) dX4_costFrom_41 (by decide) ?_
      refine gv_goto 42 S 46 dX4_costFrom_42 (by decide) ?_
      exact gv_sub [2, 5, 6, 7, 1, 0] rfl (t_X4_costFrom_46 S v3 v4 v5 r1 (0 : Int32) (1 : Int32) h)
  · refine gv_iconst 27 S (1 : Int32) dX4_costFrom_27 (by decide) ?_
    refine gv_goto 28 S 32 dX4_costFrom_28 (by decide) ?_
    refine gv_istore 32 S (lv' := [(7, .int (1 : Int32)), (6, .int r1), (0, .ref (X.2.2 71)), (1, .ref (X.2.2 20)), (2, .int v2), (3, .int v3), (4, .int v4), (5, .int v5)]) dX4_costFrom_32 (Nat.le_of_ble_eq_true rfl) rfl ?_
    refine gv_iload 34 S 1 dX4_costFrom_34 rfl ?_
    refine gv_iload 36 S 6 dX4_costFrom_36 rfl ?_
    refine gv_icmp_ge 38 S 45 h dX4_costFrom_38 (by decide) (fun h => ?_) (fun h => ?_)
    · refine gv_iconst 45 S (0 : Int32) dX4_costFrom_45 (by decide) ?_
      exact gv_sub [2, 5, 6, 7, 1, 0] rfl (t_X4_costFrom_46 S v3 v4 v5 r1 (1 : Int32) (0 : Int32) h)
    · refine gv_iconst 41 S (1 : Int32) dX4_costFrom_41 (by decide) ?_
      refine gv_goto 42 S 46 dX4_costFrom_42 (by decide) ?_
      exact gv_sub [2, 5, 6, 7, 1, 0] rfl (t_X4_costFrom_46 S v3 v4 v5 r1 (1 : Int32) (1 : Int32) h)
abbrev rm_X4_leastFrom : Room := { frames := 3, cells := 0, slots := 0, locals := 63 }
set_option maxHeartbeats 4000000 in
set_option maxRecDepth 100000 in
theorem t_X4_leastFrom_7 {p : Program} {l : Launch} {e : Env} {s : State} {m : MethodId} {args : Array Value} {below : List Frame} {meth : Method} {c : Code} {X : GE} {M : MM} {r : Int32} (S : CX p s m args meth c cX4_leastFrom 7 wsX4_leastFrom RX4 (some .int) X) : ∀ (n : Nat) (v2 : Int32) (v3 : Int32) (v4 : Int32) (v5 : Int32) (v6 : Int32) (h : g_X4_leastFrom_7 M n v2 v3 v4 v5 v6 = some r), V p l e (headSpec wsX4_leastFrom rm_X4_leastFrom).room s m args below meth c 7 X (MQ below (gQi X r M) args s 0 0 (gA X)) M 7 [(0, .ref (X.2.2 71)), (1, .ref (X.2.2 20)), (2, .int v2), (3, .int v3), (4, .int v4), (5, .int v5), (6, .int v6)] [] := by
  intro n
  induction n with
  | zero =>
    intro v2 v3 v4 v5 v6 h
    rw [g_X4_leastFrom_7] at h
    cases h
  | succ n ih =>
    intro v2 v3 v4 v5 v6 h
    rw [g_X4_leastFrom_7] at h
    refine gv_iload 7 S 6 dX4_leastFrom_7 rfl ?_
    refine gv_iconst 9 S (3 : Int32) dX4_leastFrom_9 (by decide) ?_
    refine gv_icmp_ge 10 S 37 h dX4_leastFrom_10 (by decide) (fun h => ?_) (fun h => ?_)
    · refine gv_iload 37 S 5 dX4_leastFrom_37 rfl ?_
      exact gv_iretR 39 S h dX4_leastFrom_39
    · refine gv_iload 13 S 5 dX4_leastFrom_13 rfl ?_
      refine gv_aload_n 15 S 0 0 dX4_leastFrom_15 rfl rfl ?_
      refine gv_aload_n 16 S 1 1 dX4_leastFrom_16 rfl rfl ?_
      refine gv_iload_n 17 S 2 2 dX4_leastFrom_17 rfl rfl ?_
      refine gv_iload_n 18 S 3 3 dX4_leastFrom_18 rfl rfl ?_
      refine gv_iload 19 S 4 dX4_leastFrom_19 rfl ?_
      refine gv_iload 21 S 6 dX4_leastFrom_21 rfl ?_
      obtain ⟨r1, hc2, h⟩ := br_some h
      refine gv_cVi 23 S (As := [.ref (X.2.2 20), .int v2, .int v3, .int v4, .int v6]) (rest := [.int v5]) (c_X4_costFrom l X M v2 v3 v4 v6 r1 hc2) (hO_71 X) rfl (cwV 5 S.1.2.2.2.2 gX4_leastFrom_X4_costFrom rfl rfl rfl (by decide +kernel) ⟨Nat.le_of_ble_eq_true rfl, Nat.le_of_ble_eq_true rfl⟩) rfl rfl (Nat.le_of_ble_eq_true rfl) dX4_leastFrom_23 ?_
      refine gv_mmin 26 S (by decide +kernel) (by decide +kernel) (by decide +kernel) (by decide +kernel) (Nat.le_of_ble_eq_true rfl) (Nat.le_of_ble_eq_true rfl) dX4_leastFrom_26 ?_
      refine gv_nmi h (fun x3 h => ?_)
      refine gv_istore 29 S (lv' := [(5, .int x3), (0, .ref (X.2.2 71)), (1, .ref (X.2.2 20)), (2, .int v2), (3, .int v3), (4, .int v4), (6, .int v6)]) dX4_leastFrom_29 (Nat.le_of_ble_eq_true rfl) rfl ?_
      refine gv_iinc 31 S 6 (v6 + (1 : Int32)) (lv' := [(6, .int (v6 + (1 : Int32))), (5, .int x3), (0, .ref (X.2.2 71)), (1, .ref (X.2.2 20)), (2, .int v2), (3, .int v3), (4, .int v4)]) dX4_leastFrom_31 rfl rfl (Nat.le_of_ble_eq_true rfl) rfl ?_
      refine gv_goto 34 S 7 dX4_leastFrom_34 (by decide) ?_
      exact gv_sub [2, 3, 4, 5, 6, 1, 0] rfl (ih v2 v3 v4 x3 (v6 + (1 : Int32)) h)
set_option maxHeartbeats 4000000 in
set_option maxRecDepth 100000 in
theorem c_X4_leastFrom (l : Launch) (X : GE) (M : MM) (v2 : Int32) (v3 : Int32) (v4 : Int32) (r : Int32) (h : f_X4_leastFrom M v2 v3 v4 = some r) : CTi l yX4_leastFrom wsX4_leastFrom rm_X4_leastFrom X [.ref (X.2.2 71), .ref (X.2.2 20), .int v2, .int v3, .int v4] M r M := by
  refine ct_i (own := RX4) (by decide +kernel) rfl rfl (Nat.le_of_ble_eq_true rfl) (lv0 := [(0, .ref (X.2.2 71)), (1, .ref (X.2.2 20)), (2, .int v2), (3, .int v3), (4, .int v4)]) rfl ?_
  intro p e s m args below meth c S
  unfold f_X4_leastFrom at h
  refine gv_ldc 0 S (v := (1000000 : Int32)) (by decide +kernel) dX4_leastFrom_0 ?_
  refine gv_istore 2 S (lv' := [(5, .int (1000000 : Int32)), (0, .ref (X.2.2 71)), (1, .ref (X.2.2 20)), (2, .int v2), (3, .int v3), (4, .int v4)]) dX4_leastFrom_2 (Nat.le_of_ble_eq_true rfl) rfl ?_
  refine gv_iconst 4 S (0 : Int32) dX4_leastFrom_4 (by decide) ?_
  refine gv_istore 5 S (lv' := [(6, .int (0 : Int32)), (5, .int (1000000 : Int32)), (0, .ref (X.2.2 71)), (1, .ref (X.2.2 20)), (2, .int v2), (3, .int v3), (4, .int v4)]) dX4_leastFrom_5 (Nat.le_of_ble_eq_true rfl) rfl ?_
  exact gv_sub [2, 3, 4, 5, 6, 1, 0] rfl (t_X4_leastFrom_7 S FU v2 v3 v4 (1000000 : Int32) (0 : Int32) h)
theorem mi_X4_choose_1 : ∀ w ∈ u_ws RX1 TX1 4, w ∈ wsX4_choose := by decide +kernel
theorem mf_X4_choose_38 : MF wsX4_choose RX4 38 1 2 := ⟨RX1, TX1, 4, rfl, by decide, mi_X4_choose_1, by decide +kernel⟩
theorem mi_X4_choose_6 : ∀ w ∈ u_ws RX6 TX6 6, w ∈ wsX4_choose := by decide +kernel
theorem mf_X4_choose_42 : MF wsX4_choose RX4 42 6 5 := ⟨RX6, TX6, 6, rfl, by decide, mi_X4_choose_6, by decide +kernel⟩
theorem mf_X4_choose_24 : MF wsX4_choose RX4 24 1 3 := ⟨RX1, TX1, 4, rfl, by decide, mi_X4_choose_1, by decide +kernel⟩
theorem mi_X4_choose_4 : ∀ w ∈ u_ws RX4 TX4 6, w ∈ wsX4_choose := by decide +kernel
theorem mf_X4_choose_18 : MF wsX4_choose RX4 18 4 2 := ⟨RX4, TX4, 6, rfl, by decide, mi_X4_choose_4, by decide +kernel⟩
theorem mf_X4_choose_21 : MF wsX4_choose RX4 21 4 3 := ⟨RX4, TX4, 6, rfl, by decide, mi_X4_choose_4, by decide +kernel⟩
theorem mf_X4_choose_11 : MF wsX4_choose RX4 11 4 0 := ⟨RX4, TX4, 6, rfl, by decide, mi_X4_choose_4, by decide +kernel⟩
abbrev rm_X4_choose : Room := { frames := 3, cells := 0, slots := 0, locals := 63 }
set_option maxHeartbeats 4000000 in
set_option maxRecDepth 100000 in
theorem t_X4_choose_61 {p : Program} {l : Launch} {e : Env} {s : State} {m : MethodId} {args : Array Value} {below : List Frame} {meth : Method} {c : Code} {X : GE} {M' : MM} (S : CX p s m args meth c cX4_choose 6 wsX4_choose RX4 none X) (rec11 : MM → Int32 → Int32 → Int32 → Option MM) (hrec11 : ∀ (M : MM) (v2 : Int32) (v3 : Int32) (v4 : Int32), rec11 M v2 v3 v4 = some M' → V p l e (headSpec wsX4_choose rm_X4_choose).room s m args below meth c 6 X (MQ below (gQv X M') args s 0 0 (gA X)) M 11 [(0, .ref (X.2.2 71)), (1, .ref (X.2.2 20)), (2, .int v2), (3, .int v3), (4, .int v4)] []) (M : MM) (v2 : Int32) (v3 : Int32) (v4 : Int32) (v5 : Int32) (h : g_X4_choose_61 rec11 M v2 v3 v4 v5 = some M') : V p l e (headSpec wsX4_choose rm_X4_choose).room s m args below meth c 6 X (MQ below (gQv X M') args s 0 0 (gA X)) M 61 [(0, .ref (X.2.2 71)), (1, .ref (X.2.2 20)), (2, .int v2), (3, .int v3), (4, .int v4), (5, .int v5)] [] := by
  unfold g_X4_choose_61 at h
  refine gv_aload_n 61 S 0 0 dX4_choose_61 rfl rfl ?_
  refine gv_get 62 S (hF_71_height X) mf_X4_choose_21 dX4_choose_62 ?_
  refine gv_iload 65 S 4 dX4_choose_65 rfl ?_
  refine gv_aload_n 67 S 0 0 dX4_choose_67 rfl rfl ?_
  refine gv_get 68 S (hF_71_tried X) mf_X4_choose_11 dX4_choose_68 ?_
  refine gv_iload 71 S 4 dX4_choose_71 rfl ?_
  refine gv_iconst 73 S (3 : Int32) dX4_choose_73 (by decide) ?_
  refine gv_imul 74 S dX4_choose_74 ?_
  refine gv_iload 75 S 5 dX4_choose_75 rfl ?_
  refine gv_iadd 77 S dX4_choose_77 ?_
  refine gv_iald 78 S h (hI_72 X) dX4_choose_78 (fun h => ?_)
  refine gv_iast 79 S h (hI_75 X) dX4_choose_79 (fun M4 h => ?_)
  refine gv_iload_n 80 S 3 3 dX4_choose_80 rfl rfl ?_
  refine gv_aload_n 81 S 1 1 dX4_choose_81 rfl rfl ?_
  refine gv_iload 82 S 4 dX4_choose_82 rfl ?_
  refine gv_aload_n 84 S 0 0 dX4_choose_84 rfl rfl ?_
  refine gv_get 85 S (hF_71_height X) mf_X4_choose_21 dX4_choose_85 ?_
  refine gv_iload 88 S 4 dX4_choose_88 rfl ?_
  refine gv_iald 90 S h (hI_75 X) dX4_choose_90 (fun h => ?_)
  obtain ⟨r5, hc6, h⟩ := br_some h
  refine gv_cVi 91 S (As := [.int v4, .int (M4 75 v4.toNatClampNeg)]) (rest := [.int v3]) (c_X1_edge l X M4 v4 (M4 75 v4.toNatClampNeg) r5 hc6) (hO_20 X) rfl (cwV 2 S.1.2.2.2.2 gX4_choose_X1_edge rfl rfl rfl (by decide +kernel) ⟨Nat.le_of_ble_eq_true rfl, Nat.le_of_ble_eq_true rfl⟩) rfl rfl (Nat.le_of_ble_eq_true rfl) dX4_choose_91 ?_
  refine gv_mmin 94 S (by decide +kernel) (by decide +kernel) (by decide +kernel) (by decide +kernel) (Nat.le_of_ble_eq_true rfl) (Nat.le_of_ble_eq_true rfl) dX4_choose_94 ?_
  refine gv_nmi h (fun x7 h => ?_)
  refine gv_istore_n 97 S 3 (lv' := [(3, .int x7), (0, .ref (X.2.2 71)), (1, .ref (X.2.2 20)), (2, .int v2), (4, .int v4), (5, .int v5)]) dX4_choose_97 rfl (Nat.le_of_ble_eq_true rfl) rfl ?_
  refine gv_iinc 98 S 4 (v4 + (1 : Int32)) (lv' := [(4, .int (v4 + (1 : Int32))), (3, .int x7), (0, .ref (X.2.2 71)), (1, .ref (X.2.2 20)), (2, .int v2), (5, .int v5)]) dX4_choose_98 rfl rfl (Nat.le_of_ble_eq_true rfl) rfl ?_
  refine gv_goto 101 S 11 dX4_choose_101 (by decide) ?_
  exact gv_sub [2, 3, 4, 1, 0] rfl (hrec11 M4 v2 x7 (v4 + (1 : Int32)) h)
set_option maxHeartbeats 4000000 in
set_option maxRecDepth 100000 in
theorem t_X4_choose_23 {p : Program} {l : Launch} {e : Env} {s : State} {m : MethodId} {args : Array Value} {below : List Frame} {meth : Method} {c : Code} {X : GE} {M' : MM} (S : CX p s m args meth c cX4_choose 6 wsX4_choose RX4 none X) (rec11 : MM → Int32 → Int32 → Int32 → Option MM) (hrec11 : ∀ (M : MM) (v2 : Int32) (v3 : Int32) (v4 : Int32), rec11 M v2 v3 v4 = some M' → V p l e (headSpec wsX4_choose rm_X4_choose).room s m args below meth c 6 X (MQ below (gQv X M') args s 0 0 (gA X)) M 11 [(0, .ref (X.2.2 71)), (1, .ref (X.2.2 20)), (2, .int v2), (3, .int v3), (4, .int v4)] []) : ∀ (n : Nat) (M : MM) (v2 : Int32) (v3 : Int32) (v4 : Int32) (v5 : Int32) (h : g_X4_choose_23 rec11 n M v2 v3 v4 v5 = some M'), V p l e (headSpec wsX4_choose rm_X4_choose).room s m args below meth c 6 X (MQ below (gQv X M') args s 0 0 (gA X)) M 23 [(0, .ref (X.2.2 71)), (1, .ref (X.2.2 20)), (2, .int v2), (3, .int v3), (4, .int v4), (5, .int v5)] [] := by
  intro n
  induction n with
  | zero =>
    intro M v2 v3 v4 v5 h
    rw [g_X4_choose_23] at h
    cases h
  | succ n ih =>
    intro M v2 v3 v4 v5 h
    rw [g_X4_choose_23] at h
    refine gv_iload 23 S 5 dX4_choose_23 rfl ?_
    refine gv_iconst 25 S (2 : Int32) dX4_choose_25 (by decide) ?_
    refine gv_icmp_ge 26 S 61 h dX4_choose_26 (by decide) (fun h => ?_) (fun h => ?_)
    · exact gv_sub [0, 1, 2, 3, 4, 5] rfl (t_X4_choose_61 S rec11 hrec11 M v2 v3 v4 v5 h)
    · refine gv_aload_n 29 S 0 0 dX4_choose_29 rfl rfl ?_
      refine gv_aload_n 30 S 1 1 dX4_choose_30 rfl rfl ?_
      refine gv_iload_n 31 S 2 2 dX4_choose_31 rfl rfl ?_
      refine gv_iload 32 S 4 dX4_choose_32 rfl ?_
      refine gv_iload_n 34 S 3 3 dX4_choose_34 rfl rfl ?_
      refine gv_iload 35 S 5 dX4_choose_35 rfl ?_
      obtain ⟨r2, hc3, h⟩ := br_some h
      refine gv_cVi 37 S (As := [.ref (X.2.2 20), .int v2, .int v4, .int v3, .int v5]) (rest := []) (c_X4_costFrom l X M v2 v4 v3 v5 r2 hc3) (hO_71 X) rfl (cwV 5 S.1.2.2.2.2 gX4_choose_X4_costFrom rfl rfl rfl (by decide +kernel) ⟨Nat.le_of_ble_eq_true rfl, Nat.le_of_ble_eq_true rfl⟩) rfl rfl (Nat.le_of_ble_eq_true rfl) dX4_choose_37 ?_
      refine gv_aload_n 40 S 0 0 dX4_choose_40 rfl rfl ?_
      refine gv_get 41 S (hF_71_least X) mf_X4_choose_18 dX4_choose_41 ?_
      refine gv_iload 44 S 4 dX4_choose_44 rfl ?_
      refine gv_bipush 46 S (10 : Int32) dX4_choose_46 (by decide) ?_
      refine gv_imul 48 S dX4_choose_48 ?_
      refine gv_iload_n 49 S 3 3 dX4_choose_49 rfl rfl ?_
      refine gv_iadd 50 S dX4_choose_50 ?_
      refine gv_iald 51 S h (hI_74 X) dX4_choose_51 (fun h => ?_)
      refine gv_icmp_eq 52 S 61 h dX4_choose_52 (by decide) (fun h => ?_) (fun h => ?_)
      · exact gv_sub [0, 1, 2, 3, 4, 5] rfl (t_X4_choose_61 S rec11 hrec11 M v2 v3 v4 v5 h)
      · refine gv_iinc 55 S 5 (v5 + (1 : Int32)) (lv' := [(5, .int (v5 + (1 : Int32))), (0, .ref (X.2.2 71)), (1, .ref (X.2.2 20)), (2, .int v2), (3, .int v3), (4, .int v4)]) dX4_choose_55 rfl rfl (Nat.le_of_ble_eq_true rfl) rfl ?_
        refine gv_goto 58 S 23 dX4_choose_58 (by decide) ?_
        exact gv_sub [1, 2, 3, 4, 5, 0] rfl (ih M v2 v3 v4 (v5 + (1 : Int32)) h)
set_option maxHeartbeats 4000000 in
set_option maxRecDepth 100000 in
theorem t_X4_choose_11 {p : Program} {l : Launch} {e : Env} {s : State} {m : MethodId} {args : Array Value} {below : List Frame} {meth : Method} {c : Code} {X : GE} {M' : MM} (S : CX p s m args meth c cX4_choose 6 wsX4_choose RX4 none X) : ∀ (n : Nat) (M : MM) (v2 : Int32) (v3 : Int32) (v4 : Int32) (h : g_X4_choose_11 n M v2 v3 v4 = some M'), V p l e (headSpec wsX4_choose rm_X4_choose).room s m args below meth c 6 X (MQ below (gQv X M') args s 0 0 (gA X)) M 11 [(0, .ref (X.2.2 71)), (1, .ref (X.2.2 20)), (2, .int v2), (3, .int v3), (4, .int v4)] [] := by
  intro n
  induction n with
  | zero =>
    intro M v2 v3 v4 h
    rw [g_X4_choose_11] at h
    cases h
  | succ n ih =>
    intro M v2 v3 v4 h
    rw [g_X4_choose_11] at h
    refine gv_iload 11 S 4 dX4_choose_11 rfl ?_
    refine gv_aload_n 13 S 1 1 dX4_choose_13 rfl rfl ?_
    refine gv_get 14 S (hF_20_count X) mf_X4_choose_24 dX4_choose_14 ?_
    refine gv_icmp_ge 17 S 104 h dX4_choose_17 (by decide) (fun h => ?_) (fun h => ?_)
    · exact gv_vret 104 S h dX4_choose_104
    · refine gv_iconst 20 S (0 : Int32) dX4_choose_20 (by decide) ?_
      refine gv_istore 21 S (lv' := [(5, .int (0 : Int32)), (0, .ref (X.2.2 71)), (1, .ref (X.2.2 20)), (2, .int v2), (3, .int v3), (4, .int v4)]) dX4_choose_21 (Nat.le_of_ble_eq_true rfl) rfl ?_
      exact gv_sub [1, 2, 3, 4, 5, 0] rfl (t_X4_choose_23 S (g_X4_choose_11 n) ih FU M v2 v3 v4 (0 : Int32) h)
set_option maxHeartbeats 4000000 in
set_option maxRecDepth 100000 in
theorem c_X4_choose (l : Launch) (X : GE) (M : MM) (v2 : Int32) (M' : MM) (h : f_X4_choose M v2 = some M') : CTv l yX4_choose wsX4_choose rm_X4_choose X [.ref (X.2.2 71), .ref (X.2.2 20), .int v2] M M' := by
  refine ct_v (own := RX4) (by decide +kernel) rfl rfl (Nat.le_of_ble_eq_true rfl) (lv0 := [(0, .ref (X.2.2 71)), (1, .ref (X.2.2 20)), (2, .int v2)]) rfl ?_
  intro p e s m args below meth c S
  unfold f_X4_choose at h
  refine gv_aload_n 0 S 1 1 dX4_choose_0 rfl rfl ?_
  refine gv_get 1 S (hF_20_now X) mf_X4_choose_38 dX4_choose_1 ?_
  refine gv_get 4 S (hF_23_trim X) mf_X4_choose_42 dX4_choose_4 ?_
  refine gv_nmi h (fun x1 h => ?_)
  refine gv_istore_n 7 S 3 (lv' := [(3, .int x1), (0, .ref (X.2.2 71)), (1, .ref (X.2.2 20)), (2, .int v2)]) dX4_choose_7 rfl (Nat.le_of_ble_eq_true rfl) rfl ?_
  refine gv_iconst 8 S (0 : Int32) dX4_choose_8 (by decide) ?_
  refine gv_istore 9 S (lv' := [(4, .int (0 : Int32)), (3, .int x1), (0, .ref (X.2.2 71)), (1, .ref (X.2.2 20)), (2, .int v2)]) dX4_choose_9 (Nat.le_of_ble_eq_true rfl) rfl ?_
  exact gv_sub [2, 3, 4, 1, 0] rfl (t_X4_choose_11 S FU M v2 x1 (0 : Int32) h)
theorem mi_X4_find_1 : ∀ w ∈ u_ws RX1 TX1 4, w ∈ wsX4_find := by decide +kernel
theorem mf_X4_find_24 : MF wsX4_find RX4 24 1 3 := ⟨RX1, TX1, 4, rfl, by decide, mi_X4_find_1, by decide +kernel⟩
theorem mi_X4_find_4 : ∀ w ∈ u_ws RX4 TX4 6, w ∈ wsX4_find := by decide +kernel
theorem mf_X4_find_18 : MF wsX4_find RX4 18 4 2 := ⟨RX4, TX4, 6, rfl, by decide, mi_X4_find_4, by decide +kernel⟩
theorem mf_X4_find_38 : MF wsX4_find RX4 38 1 2 := ⟨RX1, TX1, 4, rfl, by decide, mi_X4_find_1, by decide +kernel⟩
theorem mi_X4_find_6 : ∀ w ∈ u_ws RX6 TX6 6, w ∈ wsX4_find := by decide +kernel
theorem mf_X4_find_42 : MF wsX4_find RX4 42 6 5 := ⟨RX6, TX6, 6, rfl, by decide, mi_X4_find_6, by decide +kernel⟩
theorem mp_X4_find_48 : MP wsX4_find RX4 48 4 4 .int := ⟨RX4, TX4, 6, tyX4, rfl, by decide, mi_X4_find_4, by decide +kernel, tyX4_ok, nmX4, rfl, by decide +kernel⟩
theorem mp_X4_find_51 : MP wsX4_find RX4 51 4 5 .int := ⟨RX4, TX4, 6, tyX4, rfl, by decide, mi_X4_find_4, by decide +kernel, tyX4_ok, nmX4, rfl, by decide +kernel⟩
abbrev rm_X4_find : Room := { frames := 4, cells := 0, slots := 0, locals := 89 }
set_option maxHeartbeats 4000000 in
set_option maxRecDepth 100000 in
theorem t_X4_find_49 {p : Program} {l : Launch} {e : Env} {s : State} {m : MethodId} {args : Array Value} {below : List Frame} {meth : Method} {c : Code} {X : GE} {r : Int32} {M' : MM} (S : CX p s m args meth c cX4_find 5 wsX4_find RX4 (some .boolean) X) (rec36 : MM → Int32 → Int32 → Option (Int32 × MM)) (hrec36 : ∀ (M : MM) (v2 : Int32) (v3 : Int32), rec36 M v2 v3 = some (r, M') → V p l e (headSpec wsX4_find rm_X4_find).room s m args below meth c 5 X (MQ below (gQi X r M') args s 0 0 (gA X)) M 36 [(0, .ref (X.2.2 71)), (1, .ref (X.2.2 20)), (2, .int v2), (3, .int v3)] []) : ∀ (n : Nat) (M : MM) (v2 : Int32) (v3 : Int32) (v4 : Int32) (h : g_X4_find_49 rec36 n M v2 v3 v4 = some (r, M')), V p l e (headSpec wsX4_find rm_X4_find).room s m args below meth c 5 X (MQ below (gQi X r M') args s 0 0 (gA X)) M 49 [(0, .ref (X.2.2 71)), (1, .ref (X.2.2 20)), (2, .int v2), (3, .int v3), (4, .int v4)] [] := by
  intro n
  induction n with
  | zero =>
    intro M v2 v3 v4 h
    rw [g_X4_find_49] at h
    cases h
  | succ n ih =>
    intro M v2 v3 v4 h
    rw [g_X4_find_49] at h
    refine gv_iload 49 S 4 dX4_find_49 rfl ?_
    refine gv_bipush 51 S (10 : Int32) dX4_find_51 (by decide) ?_
    refine gv_icmp_ge 53 S 83 h dX4_find_53 (by decide) (fun h => ?_) (fun h => ?_)
    · refine gv_iinc 83 S 3 (v3 + (-1 : Int32)) (lv' := [(3, .int (v3 + (-1 : Int32))), (0, .ref (X.2.2 71)), (1, .ref (X.2.2 20)), (2, .int v2), (4, .int v4)]) dX4_find_83 rfl rfl (Nat.le_of_ble_eq_true rfl) rfl ?_
      refine gv_goto 86 S 36 dX4_find_86 (by decide) ?_
      exact gv_sub [1, 2, 3, 0] rfl (hrec36 M v2 (v3 + (-1 : Int32)) h)
    · refine gv_aload_n 56 S 0 0 dX4_find_56 rfl rfl ?_
      refine gv_get 57 S (hF_71_least X) mf_X4_find_18 dX4_find_57 ?_
      refine gv_iload_n 60 S 3 3 dX4_find_60 rfl rfl ?_
      refine gv_bipush 61 S (10 : Int32) dX4_find_61 (by decide) ?_
      refine gv_imul 63 S dX4_find_63 ?_
      refine gv_iload 64 S 4 dX4_find_64 rfl ?_
      refine gv_iadd 66 S dX4_find_66 ?_
      refine gv_aload_n 67 S 0 0 dX4_find_67 rfl rfl ?_
      refine gv_aload_n 68 S 1 1 dX4_find_68 rfl rfl ?_
      refine gv_iload_n 69 S 2 2 dX4_find_69 rfl rfl ?_
      refine gv_iload_n 70 S 3 3 dX4_find_70 rfl rfl ?_
      refine gv_iload 71 S 4 dX4_find_71 rfl ?_
      obtain ⟨r12, hc13, h⟩ := br_some h
      refine gv_cVi 73 S (As := [.ref (X.2.2 20), .int v2, .int v3, .int v4]) (rest := [.int ((v3 * (10 : Int32)) + v4), .ref (X.2.2 74)]) (c_X4_leastFrom l X M v2 v3 v4 r12 hc13) (hO_71 X) rfl (cwV 4 S.1.2.2.2.2 gX4_find_X4_leastFrom rfl rfl rfl (by decide +kernel) ⟨Nat.le_of_ble_eq_true rfl, Nat.le_of_ble_eq_true rfl⟩) rfl rfl (Nat.le_of_ble_eq_true rfl) dX4_find_73 ?_
      refine gv_iast 76 S h (hI_74 X) dX4_find_76 (fun M14 h => ?_)
      refine gv_iinc 77 S 4 (v4 + (1 : Int32)) (lv' := [(4, .int (v4 + (1 : Int32))), (0, .ref (X.2.2 71)), (1, .ref (X.2.2 20)), (2, .int v2), (3, .int v3)]) dX4_find_77 rfl rfl (Nat.le_of_ble_eq_true rfl) rfl ?_
      refine gv_goto 80 S 49 dX4_find_80 (by decide) ?_
      exact gv_sub [1, 2, 3, 4, 0] rfl (ih M14 v2 v3 (v4 + (1 : Int32)) h)
set_option maxHeartbeats 4000000 in
set_option maxRecDepth 100000 in
theorem t_X4_find_36 {p : Program} {l : Launch} {e : Env} {s : State} {m : MethodId} {args : Array Value} {below : List Frame} {meth : Method} {c : Code} {X : GE} {r : Int32} {M' : MM} (S : CX p s m args meth c cX4_find 5 wsX4_find RX4 (some .boolean) X) : ∀ (n : Nat) (M : MM) (v2 : Int32) (v3 : Int32) (h : g_X4_find_36 n M v2 v3 = some (r, M')), V p l e (headSpec wsX4_find rm_X4_find).room s m args below meth c 5 X (MQ below (gQi X r M') args s 0 0 (gA X)) M 36 [(0, .ref (X.2.2 71)), (1, .ref (X.2.2 20)), (2, .int v2), (3, .int v3)] [] := by
  intro n
  induction n with
  | zero =>
    intro M v2 v3 h
    rw [g_X4_find_36] at h
    cases h
  | succ n ih =>
    intro M v2 v3 h
    rw [g_X4_find_36] at h
    refine gv_iload_n 36 S 3 3 dX4_find_36 rfl rfl ?_
    refine gv_if_lt 37 S 89 h dX4_find_37 (by decide) (fun h => ?_) (fun h => ?_)
    · refine gv_aload_n 89 S 0 0 dX4_find_89 rfl rfl ?_
      refine gv_get 90 S (hF_71_least X) mf_X4_find_18 dX4_find_90 ?_
      refine gv_aload_n 93 S 1 1 dX4_find_93 rfl rfl ?_
      refine gv_get 94 S (hF_20_now X) mf_X4_find_38 dX4_find_94 ?_
      refine gv_get 97 S (hF_23_trim X) mf_X4_find_42 dX4_find_97 ?_
      refine gv_iald 100 S h (hI_74 X) dX4_find_100 (fun h => ?_)
      refine gv_nmi h (fun x3 h => ?_)
      refine gv_istore_n 101 S 3 (lv' := [(3, .int x3), (0, .ref (X.2.2 71)), (1, .ref (X.2.2 20)), (2, .int v2)]) dX4_find_101 rfl (Nat.le_of_ble_eq_true rfl) rfl ?_
      refine gv_iload_n 102 S 3 0 dX4_find_102 rfl rfl ?_
      refine gv_ldc 103 S (v := (1000000 : Int32)) (by decide +kernel) dX4_find_103 ?_
      refine gv_icmp_lt 105 S 110 h dX4_find_105 (by decide) (fun h => ?_) (fun h => ?_)
      · refine gv_aload_n 110 S 0 1 dX4_find_110 rfl rfl ?_
        refine gv_iload_n 111 S 3 0 dX4_find_111 rfl rfl ?_
        refine gv_sipush 112 S (1000 : Int32) dX4_find_112 (by decide) ?_
        refine gv_idiv 115 S (by decide) dX4_find_115 ?_
        refine gv_put 116 S h (hP_71_goes X) mp_X4_find_48 rfl rfl dX4_find_116 (fun M4 h => ?_)
        refine gv_aload_n 119 S 0 1 dX4_find_119 rfl rfl ?_
        refine gv_iload_n 120 S 3 0 dX4_find_120 rfl rfl ?_
        refine gv_sipush 121 S (1000 : Int32) dX4_find_121 (by decide) ?_
        refine gv_irem 124 S (by decide) dX4_find_124 ?_
        refine gv_put 125 S h (hP_71_effort X) mp_X4_find_51 rfl rfl dX4_find_125 (fun M5 h => ?_)
        refine gv_aload_n 128 S 0 1 dX4_find_128 rfl rfl ?_
        refine gv_aload_n 129 S 1 2 dX4_find_129 rfl rfl ?_
        refine gv_iload_n 130 S 2 3 dX4_find_130 rfl rfl ?_
        obtain ⟨M7, hc8, h⟩ := br_some h
        refine gv_cVv 131 S (As := [.ref (X.2.2 20), .int v2]) (rest := []) (c_X4_choose l X M5 v2 M7 hc8) (hO_71 X) rfl (cwV 2 S.1.2.2.2.2 gX4_find_X4_choose rfl rfl rfl (by decide +kernel) ⟨Nat.le_of_ble_eq_true rfl, Nat.le_of_ble_eq_true rfl⟩) rfl rfl (Nat.le_of_ble_eq_true rfl) dX4_find_131 ?_
        refine gv_iconst 134 S (1 : Int32) dX4_find_134 (by decide) ?_
        exact gv_zret 135 S h rfl dX4_find_135
      · refine gv_iconst 108 S (0 : Int32) dX4_find_108 (by decide) ?_
        exact gv_zret 109 S h rfl dX4_find_109
    · refine gv_aload_n 40 S 0 0 dX4_find_40 rfl rfl ?_
      refine gv_aload_n 41 S 1 1 dX4_find_41 rfl rfl ?_
      refine gv_iload_n 42 S 3 3 dX4_find_42 rfl rfl ?_
      obtain ⟨M10, hc11, h⟩ := br_some h
      refine gv_cVv 43 S (As := [.ref (X.2.2 20), .int v3]) (rest := []) (c_X4_setTried l X M v3 M10 hc11) (hO_71 X) rfl (cwV 2 S.1.2.2.2.2 gX4_find_X4_setTried rfl rfl rfl (by decide +kernel) ⟨Nat.le_of_ble_eq_true rfl, Nat.le_of_ble_eq_true rfl⟩) rfl rfl (Nat.le_of_ble_eq_true rfl) dX4_find_43 ?_
      refine gv_iconst 46 S (0 : Int32) dX4_find_46 (by decide) ?_
      refine gv_istore 47 S (lv' := [(4, .int (0 : Int32)), (0, .ref (X.2.2 71)), (1, .ref (X.2.2 20)), (2, .int v2), (3, .int v3)]) dX4_find_47 (Nat.le_of_ble_eq_true rfl) rfl ?_
      exact gv_sub [1, 2, 3, 4, 0] rfl (t_X4_find_49 S (g_X4_find_36 n) ih FU M10 v2 v3 (0 : Int32) h)
set_option maxHeartbeats 4000000 in
set_option maxRecDepth 100000 in
theorem t_X4_find_2 {p : Program} {l : Launch} {e : Env} {s : State} {m : MethodId} {args : Array Value} {below : List Frame} {meth : Method} {c : Code} {X : GE} {r : Int32} {M' : MM} (S : CX p s m args meth c cX4_find 5 wsX4_find RX4 (some .boolean) X) : ∀ (n : Nat) (M : MM) (v2 : Int32) (v3 : Int32) (h : g_X4_find_2 n M v2 v3 = some (r, M')), V p l e (headSpec wsX4_find rm_X4_find).room s m args below meth c 5 X (MQ below (gQi X r M') args s 0 0 (gA X)) M 2 [(0, .ref (X.2.2 71)), (1, .ref (X.2.2 20)), (2, .int v2), (3, .int v3)] [] := by
  intro n
  induction n with
  | zero =>
    intro M v2 v3 h
    rw [g_X4_find_2] at h
    cases h
  | succ n ih =>
    intro M v2 v3 h
    rw [g_X4_find_2] at h
    refine gv_iload_n 2 S 3 3 dX4_find_2 rfl rfl ?_
    refine gv_bipush 3 S (10 : Int32) dX4_find_3 (by decide) ?_
    refine gv_icmp_ge 5 S 29 h dX4_find_5 (by decide) (fun h => ?_) (fun h => ?_)
    · refine gv_aload_n 29 S 1 1 dX4_find_29 rfl rfl ?_
      refine gv_get 30 S (hF_20_count X) mf_X4_find_24 dX4_find_30 ?_
      refine gv_iconst 33 S (1 : Int32) dX4_find_33 (by decide) ?_
      refine gv_isub 34 S dX4_find_34 ?_
      refine gv_nmi h (fun x1 h => ?_)
      refine gv_istore_n 35 S 3 (lv' := [(3, .int x1), (0, .ref (X.2.2 71)), (1, .ref (X.2.2 20)), (2, .int v2)]) dX4_find_35 rfl (Nat.le_of_ble_eq_true rfl) rfl ?_
      exact gv_sub [1, 2, 3, 0] rfl (t_X4_find_36 S FU M v2 x1 h)
    · refine gv_aload_n 8 S 0 0 dX4_find_8 rfl rfl ?_
      refine gv_get 9 S (hF_71_least X) mf_X4_find_18 dX4_find_9 ?_
      refine gv_aload_n 12 S 1 1 dX4_find_12 rfl rfl ?_
      refine gv_get 13 S (hF_20_count X) mf_X4_find_24 dX4_find_13 ?_
      refine gv_bipush 16 S (10 : Int32) dX4_find_16 (by decide) ?_
      refine gv_imul 18 S dX4_find_18 ?_
      refine gv_iload_n 19 S 3 3 dX4_find_19 rfl rfl ?_
      refine gv_iadd 20 S dX4_find_20 ?_
      refine gv_iconst 21 S (0 : Int32) dX4_find_21 (by decide) ?_
      refine gv_iast 22 S h (hI_74 X) dX4_find_22 (fun M2 h => ?_)
      refine gv_iinc 23 S 3 (v3 + (1 : Int32)) (lv' := [(3, .int (v3 + (1 : Int32))), (0, .ref (X.2.2 71)), (1, .ref (X.2.2 20)), (2, .int v2)]) dX4_find_23 rfl rfl (Nat.le_of_ble_eq_true rfl) rfl ?_
      refine gv_goto 26 S 2 dX4_find_26 (by decide) ?_
      exact gv_sub [1, 2, 3, 0] rfl (ih M2 v2 (v3 + (1 : Int32)) h)
set_option maxHeartbeats 4000000 in
set_option maxRecDepth 100000 in
theorem c_X4_find (l : Launch) (X : GE) (M : MM) (v2 : Int32) (r : Int32) (M' : MM) (h : f_X4_find M v2 = some (r, M')) : CTi l yX4_find wsX4_find rm_X4_find X [.ref (X.2.2 71), .ref (X.2.2 20), .int v2] M r M' := by
  refine ct_i (own := RX4) (by decide +kernel) rfl rfl (Nat.le_of_ble_eq_true rfl) (lv0 := [(0, .ref (X.2.2 71)), (1, .ref (X.2.2 20)), (2, .int v2)]) rfl ?_
  intro p e s m args below meth c S
  unfold f_X4_find at h
  refine gv_iconst 0 S (0 : Int32) dX4_find_0 (by decide) ?_
  refine gv_istore_n 1 S 3 (lv' := [(3, .int (0 : Int32)), (0, .ref (X.2.2 71)), (1, .ref (X.2.2 20)), (2, .int v2)]) dX4_find_1 rfl (Nat.le_of_ble_eq_true rfl) rfl ?_
  exact gv_sub [1, 2, 3, 0] rfl (t_X4_find_2 S FU M v2 (0 : Int32) h)
theorem mi_X5_add_5 : ∀ w ∈ u_ws RX5 TX5 4, w ∈ wsX5_add := by decide +kernel
theorem mf_X5_add_21 : MF wsX5_add RX5 21 5 3 := ⟨RX5, TX5, 4, rfl, by decide, mi_X5_add_5, by decide +kernel⟩
theorem mf_X5_add_9 : MF wsX5_add RX5 9 5 0 := ⟨RX5, TX5, 4, rfl, by decide, mi_X5_add_5, by decide +kernel⟩
theorem mf_X5_add_15 : MF wsX5_add RX5 15 5 1 := ⟨RX5, TX5, 4, rfl, by decide, mi_X5_add_5, by decide +kernel⟩
theorem mf_X5_add_18 : MF wsX5_add RX5 18 5 2 := ⟨RX5, TX5, 4, rfl, by decide, mi_X5_add_5, by decide +kernel⟩
theorem mp_X5_add_21 : MP wsX5_add RX5 21 5 3 .int := ⟨RX5, TX5, 4, tyX5, rfl, by decide, mi_X5_add_5, by decide +kernel, tyX5_ok, nmX5, rfl, by decide +kernel⟩
abbrev rm_X5_add : Room := { frames := 0, cells := 0, slots := 0, locals := 0 }
set_option maxHeartbeats 4000000 in
set_option maxRecDepth 100000 in
theorem c_X5_add (l : Launch) (X : GE) (M : MM) (v1 : Int32) (v2 : Int32) (v3 : Int32) (M' : MM) (h : f_X5_add M v1 v2 v3 = some M') : CTv l yX5_add wsX5_add rm_X5_add X [.ref (X.2.2 61), .int v1, .int v2, .int v3] M M' := by
  refine ct_v (own := RX5) (by decide +kernel) rfl rfl (Nat.le_of_ble_eq_true rfl) (lv0 := [(0, .ref (X.2.2 61)), (1, .int v1), (2, .int v2), (3, .int v3)]) rfl ?_
  intro p e s m args below meth c S
  unfold f_X5_add at h
  refine gv_aload_n 0 S 0 0 dX5_add_0 rfl rfl ?_
  refine gv_get 1 S (hF_61_count X) mf_X5_add_21 dX5_add_1 ?_
  refine gv_bipush 4 S (8 : Int32) dX5_add_4 (by decide) ?_
  refine gv_icmp_ge 6 S 49 h dX5_add_6 (by decide) (fun h => ?_) (fun h => ?_)
  · exact gv_vret 49 S h dX5_add_49
  · refine gv_aload_n 9 S 0 0 dX5_add_9 rfl rfl ?_
    refine gv_get 10 S (hF_61_batten X) mf_X5_add_9 dX5_add_10 ?_
    refine gv_aload_n 13 S 0 0 dX5_add_13 rfl rfl ?_
    refine gv_get 14 S (hF_61_count X) mf_X5_add_21 dX5_add_14 ?_
    refine gv_iload_n 17 S 1 1 dX5_add_17 rfl rfl ?_
    refine gv_iast 18 S h (hI_62 X) dX5_add_18 (fun M1 h => ?_)
    refine gv_aload_n 19 S 0 0 dX5_add_19 rfl rfl ?_
    refine gv_get 20 S (hF_61_far X) mf_X5_add_15 dX5_add_20 ?_
    refine gv_aload_n 23 S 0 0 dX5_add_23 rfl rfl ?_
    refine gv_get 24 S (hF_61_count X) mf_X5_add_21 dX5_add_24 ?_
    refine gv_iload_n 27 S 2 2 dX5_add_27 rfl rfl ?_
    refine gv_iast 28 S h (hI_63 X) dX5_add_28 (fun M2 h => ?_)
    refine gv_aload_n 29 S 0 0 dX5_add_29 rfl rfl ?_
    refine gv_get 30 S (hF_61_effort X) mf_X5_add_18 dX5_add_30 ?_
    refine gv_aload_n 33 S 0 0 dX5_add_33 rfl rfl ?_
    refine gv_get 34 S (hF_61_count X) mf_X5_add_21 dX5_add_34 ?_
    refine gv_iload_n 37 S 3 3 dX5_add_37 rfl rfl ?_
    refine gv_iast 38 S h (hI_64 X) dX5_add_38 (fun M3 h => ?_)
    refine gv_aload_n 39 S 0 0 dX5_add_39 rfl rfl ?_
    refine gv_dup 40 S dX5_add_40 rfl ?_
    refine gv_get 41 S (hF_61_count X) mf_X5_add_21 dX5_add_41 ?_
    refine gv_iconst 44 S (1 : Int32) dX5_add_44 (by decide) ?_
    refine gv_iadd 45 S dX5_add_45 ?_
    refine gv_put 46 S h (hP_61_count X) mp_X5_add_21 rfl rfl dX5_add_46 (fun M4 h => ?_)
    exact gv_vret 49 S h dX5_add_49
theorem mi_X5_areSo_5 : ∀ w ∈ u_ws RX5 TX5 4, w ∈ wsX5_areSo := by decide +kernel
theorem mf_X5_areSo_21 : MF wsX5_areSo RX5 21 5 3 := ⟨RX5, TX5, 4, rfl, by decide, mi_X5_areSo_5, by decide +kernel⟩
theorem mf_X5_areSo_9 : MF wsX5_areSo RX5 9 5 0 := ⟨RX5, TX5, 4, rfl, by decide, mi_X5_areSo_5, by decide +kernel⟩
theorem mf_X5_areSo_15 : MF wsX5_areSo RX5 15 5 1 := ⟨RX5, TX5, 4, rfl, by decide, mi_X5_areSo_5, by decide +kernel⟩
theorem mf_X5_areSo_18 : MF wsX5_areSo RX5 18 5 2 := ⟨RX5, TX5, 4, rfl, by decide, mi_X5_areSo_5, by decide +kernel⟩
abbrev rm_X5_areSo : Room := { frames := 3, cells := 0, slots := 0, locals := 57 }
set_option maxHeartbeats 4000000 in
set_option maxRecDepth 100000 in
theorem t_X5_areSo_38 {p : Program} {l : Launch} {e : Env} {s : State} {m : MethodId} {args : Array Value} {below : List Frame} {meth : Method} {c : Code} {X : GE} {M : MM} {r : Int32} (S : CX p s m args meth c cX5_areSo 6 wsX5_areSo RX5 (some .boolean) X) (rec3 : Int32 → Int32 → Int32 → Option Int32) (hrec3 : ∀ (v2 : Int32) (v3 : Int32) (v4 : Int32), rec3 v2 v3 v4 = some r → V p l e (headSpec wsX5_areSo rm_X5_areSo).room s m args below meth c 6 X (MQ below (gQi X r M) args s 0 0 (gA X)) M 3 [(0, .ref (X.2.2 61)), (1, .ref (X.2.2 20)), (2, .int v2), (3, .int v3), (4, .int v4)] []) (v2 : Int32) (v3 : Int32) (v4 : Int32) (s0 : Int32) (h : g_X5_areSo_38 M rec3 v2 v3 v4 s0 = some r) : V p l e (headSpec wsX5_areSo rm_X5_areSo).room s m args below meth c 6 X (MQ below (gQi X r M) args s 0 0 (gA X)) M 38 [(0, .ref (X.2.2 61)), (1, .ref (X.2.2 20)), (2, .int v2), (3, .int v3), (4, .int v4)] [.int s0] := by
  unfold g_X5_areSo_38 at h
  refine gv_istore 38 S (lv' := [(5, .int s0), (0, .ref (X.2.2 61)), (1, .ref (X.2.2 20)), (2, .int v2), (3, .int v3), (4, .int v4)]) dX5_areSo_38 (Nat.le_of_ble_eq_true rfl) rfl ?_
  refine gv_iload 40 S 0 dX5_areSo_40 rfl ?_
  refine gv_aload_n 42 S 0 1 dX5_areSo_42 rfl rfl ?_
  refine gv_get 43 S (hF_61_far X) mf_X5_areSo_15 dX5_areSo_43 ?_
  refine gv_iload 46 S 5 dX5_areSo_46 rfl ?_
  refine gv_iald 48 S h (hI_63 X) dX5_areSo_48 (fun h => ?_)
  refine gv_imul 49 S dX5_areSo_49 ?_
  refine gv_aload_n 50 S 0 1 dX5_areSo_50 rfl rfl ?_
  refine gv_get 51 S (hF_61_effort X) mf_X5_areSo_18 dX5_areSo_51 ?_
  refine gv_iload 54 S 5 dX5_areSo_54 rfl ?_
  refine gv_iald 56 S h (hI_64 X) dX5_areSo_56 (fun h => ?_)
  refine gv_icmp_eq 57 S 62 h dX5_areSo_57 (by decide) (fun h => ?_) (fun h => ?_)
  · refine gv_iinc 62 S 5 (v4 + (1 : Int32)) (lv' := [(4, .int (v4 + (1 : Int32))), (5, .int s0), (0, .ref (X.2.2 61)), (1, .ref (X.2.2 20)), (2, .int v2), (3, .int v3)]) dX5_areSo_62 rfl rfl (Nat.le_of_ble_eq_true rfl) rfl ?_
    refine gv_goto 65 S 3 dX5_areSo_65 (by decide) ?_
    exact gv_sub [2, 3, 4, 5, 0] rfl (hrec3 v2 v3 (v4 + (1 : Int32)) h)
  · refine gv_iconst 60 S (0 : Int32) dX5_areSo_60 (by decide) ?_
    exact gv_zretR 61 S h rfl dX5_areSo_61
set_option maxHeartbeats 4000000 in
set_option maxRecDepth 100000 in
theorem t_X5_areSo_3 {p : Program} {l : Launch} {e : Env} {s : State} {m : MethodId} {args : Array Value} {below : List Frame} {meth : Method} {c : Code} {X : GE} {M : MM} {r : Int32} (S : CX p s m args meth c cX5_areSo 6 wsX5_areSo RX5 (some .boolean) X) : ∀ (n : Nat) (v2 : Int32) (v3 : Int32) (v4 : Int32) (h : g_X5_areSo_3 M n v2 v3 v4 = some r), V p l e (headSpec wsX5_areSo rm_X5_areSo).room s m args below meth c 6 X (MQ below (gQi X r M) args s 0 0 (gA X)) M 3 [(0, .ref (X.2.2 61)), (1, .ref (X.2.2 20)), (2, .int v2), (3, .int v3), (4, .int v4)] [] := by
  intro n
  induction n with
  | zero =>
    intro v2 v3 v4 h
    rw [g_X5_areSo_3] at h
    cases h
  | succ n ih =>
    intro v2 v3 v4 h
    rw [g_X5_areSo_3] at h
    refine gv_iload 3 S 4 dX5_areSo_3 rfl ?_
    refine gv_aload_n 5 S 0 0 dX5_areSo_5 rfl rfl ?_
    refine gv_get 6 S (hF_61_count X) mf_X5_areSo_21 dX5_areSo_6 ?_
    refine gv_icmp_ge 9 S 68 h dX5_areSo_9 (by decide) (fun h => ?_) (fun h => ?_)
    · refine gv_iconst 68 S (1 : Int32) dX5_areSo_68 (by decide) ?_
      exact gv_zretR 69 S h rfl dX5_areSo_69
    · refine gv_aload_n 12 S 0 0 dX5_areSo_12 rfl rfl ?_
      refine gv_get 13 S (hF_61_batten X) mf_X5_areSo_9 dX5_areSo_13 ?_
      refine gv_iload 16 S 4 dX5_areSo_16 rfl ?_
      refine gv_iald 18 S h (hI_62 X) dX5_areSo_18 (fun h => ?_)
      refine gv_iload_n 19 S 2 2 dX5_areSo_19 rfl rfl ?_
      refine gv_icmp_ne 20 S 27 h dX5_areSo_20 (by decide) (fun h => ?_) (fun h => ?_)
      · refine gv_aload_n 27 S 1 1 dX5_areSo_27 rfl rfl ?_
        refine gv_aload_n 28 S 0 0 dX5_areSo_28 rfl rfl ?_
        refine gv_get 29 S (hF_61_batten X) mf_X5_areSo_9 dX5_areSo_29 ?_
        refine gv_iload 32 S 4 dX5_areSo_32 rfl ?_
        refine gv_iald 34 S h (hI_62 X) dX5_areSo_34 (fun h => ?_)
        obtain ⟨r1, hc2, h⟩ := br_some h
        refine gv_cVi 35 S (As := [.int (M 62 v4.toNatClampNeg)]) (rest := []) (c_X1_pull l X M (M 62 v4.toNatClampNeg) r1 hc2) (hO_20 X) rfl (cwV 1 S.1.2.2.2.2 gX5_areSo_X1_pull rfl rfl rfl (by decide +kernel) ⟨Nat.le_of_ble_eq_true rfl, Nat.le_of_ble_eq_true rfl⟩) rfl rfl (Nat.le_of_ble_eq_true rfl) dX5_areSo_35 ?_
        exact gv_sub [0, 1, 2, 3, 4] rfl (t_X5_areSo_38 S (g_X5_areSo_3 M n) ih v2 v3 v4 r1 h)
      · refine gv_iload_n 23 S 3 3 dX5_areSo_23 rfl rfl ?_
        refine gv_goto 24 S 38 dX5_areSo_24 (by decide) ?_
        exact gv_sub [0, 1, 2, 3, 4] rfl (t_X5_areSo_38 S (g_X5_areSo_3 M n) ih v2 v3 v4 v3 h)
set_option maxHeartbeats 4000000 in
set_option maxRecDepth 100000 in
theorem c_X5_areSo (l : Launch) (X : GE) (M : MM) (v2 : Int32) (v3 : Int32) (r : Int32) (h : f_X5_areSo M v2 v3 = some r) : CTi l yX5_areSo wsX5_areSo rm_X5_areSo X [.ref (X.2.2 61), .ref (X.2.2 20), .int v2, .int v3] M r M := by
  refine ct_i (own := RX5) (by decide +kernel) rfl rfl (Nat.le_of_ble_eq_true rfl) (lv0 := [(0, .ref (X.2.2 61)), (1, .ref (X.2.2 20)), (2, .int v2), (3, .int v3)]) rfl ?_
  intro p e s m args below meth c S
  unfold f_X5_areSo at h
  refine gv_iconst 0 S (0 : Int32) dX5_areSo_0 (by decide) ?_
  refine gv_istore 1 S (lv' := [(4, .int (0 : Int32)), (0, .ref (X.2.2 61)), (1, .ref (X.2.2 20)), (2, .int v2), (3, .int v3)]) dX5_areSo_1 (Nat.le_of_ble_eq_true rfl) rfl ?_
  exact gv_sub [1, 2, 3, 4, 0] rfl (t_X5_areSo_3 S FU v2 v3 (0 : Int32) h)
theorem mi_X6_takeAll_6 : ∀ w ∈ u_ws RX6 TX6 6, w ∈ wsX6_takeAll := by decide +kernel
theorem mf_X6_takeAll_35 : MF wsX6_takeAll RX6 35 6 4 := ⟨RX6, TX6, 6, rfl, by decide, mi_X6_takeAll_6, by decide +kernel⟩
theorem mp_X6_takeAll_35 : MP wsX6_takeAll RX6 35 6 4 .int := ⟨RX6, TX6, 6, tyX6, rfl, by decide, mi_X6_takeAll_6, by decide +kernel, tyX6_ok, nmX6, rfl, by decide +kernel⟩
theorem mf_X6_takeAll_38 : MF wsX6_takeAll RX6 38 6 5 := ⟨RX6, TX6, 6, rfl, by decide, mi_X6_takeAll_6, by decide +kernel⟩
theorem mp_X6_takeAll_38 : MP wsX6_takeAll RX6 38 6 5 .int := ⟨RX6, TX6, 6, tyX6, rfl, by decide, mi_X6_takeAll_6, by decide +kernel, tyX6_ok, nmX6, rfl, by decide +kernel⟩
abbrev rm_X6_takeAll : Room := { frames := 2, cells := 0, slots := 0, locals := 39 }
set_option maxHeartbeats 4000000 in
set_option maxRecDepth 100000 in
theorem c_X6_takeAll (l : Launch) (X : GE) (M : MM) (k0 : Nat) (k1 : Nat) (hk0 : isRg k0) (hk1 : isRg k1) (M' : MM) (h : f_X6_takeAll M k0 k1 = some M') : CTv l yX6_takeAll wsX6_takeAll rm_X6_takeAll X [.ref (X.2.2 k0), .ref (X.2.2 k1)] M M' := by
  refine ct_v (own := RX6) (by decide +kernel) rfl rfl (Nat.le_of_ble_eq_true rfl) (lv0 := [(0, .ref (X.2.2 k0)), (1, .ref (X.2.2 k1))]) rfl ?_
  intro p e s m args below meth c S
  unfold f_X6_takeAll at h
  refine gv_aload_n 0 S 0 0 dX6_takeAll_0 rfl rfl ?_
  refine gv_aload_n 1 S 1 1 dX6_takeAll_1 rfl rfl ?_
  obtain ⟨M2, hc3, h⟩ := br_some h
  refine gv_cVv 2 S (As := [.ref (X.2.2 k1)]) (rest := []) (c_X6_takeMoved l X M k0 k1 hk0 hk1 M2 hc3) (hO_Rg hk0) rfl (cwV 1 S.1.2.2.2.2 gX6_takeAll_X6_takeMoved rfl rfl rfl (by decide +kernel) ⟨Nat.le_of_ble_eq_true rfl, Nat.le_of_ble_eq_true rfl⟩) rfl rfl (Nat.le_of_ble_eq_true rfl) dX6_takeAll_2 ?_
  refine gv_aload_n 5 S 0 0 dX6_takeAll_5 rfl rfl ?_
  refine gv_aload_n 6 S 1 1 dX6_takeAll_6 rfl rfl ?_
  refine gv_get 7 S (hF_Rg_hands hk1) mf_X6_takeAll_35 dX6_takeAll_7 ?_
  refine gv_put 10 S h (hP_Rg_hands hk0) mp_X6_takeAll_35 rfl rfl dX6_takeAll_10 (fun M4 h => ?_)
  refine gv_aload_n 13 S 0 0 dX6_takeAll_13 rfl rfl ?_
  refine gv_aload_n 14 S 1 1 dX6_takeAll_14 rfl rfl ?_
  refine gv_get 15 S (hF_Rg_trim hk1) mf_X6_takeAll_38 dX6_takeAll_15 ?_
  refine gv_put 18 S h (hP_Rg_trim hk0) mp_X6_takeAll_38 rfl rfl dX6_takeAll_18 (fun M5 h => ?_)
  exact gv_vret 21 S h dX6_takeAll_21
theorem mi_X7_renew_7 : ∀ w ∈ u_ws RX7 TX7 4, w ∈ wsX7_renew := by decide +kernel
theorem mp_X7_renew_15 : MP wsX7_renew RX7 15 7 1 .boolean := ⟨RX7, TX7, 4, tyX7, rfl, by decide, mi_X7_renew_7, by decide +kernel, tyX7_ok, nmX7, rfl, by decide +kernel⟩
theorem mp_X7_renew_19 : MP wsX7_renew RX7 19 7 2 .int := ⟨RX7, TX7, 4, tyX7, rfl, by decide, mi_X7_renew_7, by decide +kernel, tyX7_ok, nmX7, rfl, by decide +kernel⟩
theorem mp_X7_renew_23 : MP wsX7_renew RX7 23 7 3 .int := ⟨RX7, TX7, 4, tyX7, rfl, by decide, mi_X7_renew_7, by decide +kernel, tyX7_ok, nmX7, rfl, by decide +kernel⟩
theorem mf_X7_renew_9 : MF wsX7_renew RX7 9 7 0 := ⟨RX7, TX7, 4, rfl, by decide, mi_X7_renew_7, by decide +kernel⟩
abbrev rm_X7_renew : Room := { frames := 0, cells := 0, slots := 0, locals := 0 }
set_option maxHeartbeats 4000000 in
set_option maxRecDepth 100000 in
theorem t_X7_renew_17 {p : Program} {l : Launch} {e : Env} {s : State} {m : MethodId} {args : Array Value} {below : List Frame} {meth : Method} {c : Code} {X : GE} {M' : MM} (S : CX p s m args meth c cX7_renew 4 wsX7_renew RX7 none X) (k0 : Nat) (hk0 : isSh k0) : ∀ (n : Nat) (M : MM) (v2 : Int32) (v3 : Int32) (h : g_X7_renew_17 k0 n M v2 v3 = some M'), V p l e (headSpec wsX7_renew rm_X7_renew).room s m args below meth c 4 X (MQ below (gQv X M') args s 0 0 (gA X)) M 17 [(0, .ref (X.2.2 k0)), (2, .int v2), (3, .int v3)] [] := by
  intro n
  induction n with
  | zero =>
    intro M v2 v3 h
    rw [g_X7_renew_17] at h
    cases h
  | succ n ih =>
    intro M v2 v3 h
    rw [g_X7_renew_17] at h
    refine gv_iload_n 17 S 3 2 dX7_renew_17 rfl rfl ?_
    refine gv_iload_n 18 S 2 1 dX7_renew_18 rfl rfl ?_
    refine gv_icmp_ge 19 S 35 h dX7_renew_19 (by decide) (fun h => ?_) (fun h => ?_)
    · exact gv_vret 35 S h dX7_renew_35
    · refine gv_aload_n 22 S 0 0 dX7_renew_22 rfl rfl ?_
      refine gv_get 23 S (hF_Sh_cells hk0) mf_X7_renew_9 dX7_renew_23 ?_
      refine gv_iload_n 26 S 3 2 dX7_renew_26 rfl rfl ?_
      refine gv_iconst 27 S (0 : Int32) dX7_renew_27 (by decide) ?_
      refine gv_iast 28 S h (hI_Sh_cells hk0) dX7_renew_28 (fun M4 h => ?_)
      refine gv_iinc 29 S 2 (v3 + (1 : Int32)) (lv' := [(3, .int (v3 + (1 : Int32))), (0, .ref (X.2.2 k0)), (2, .int v2)]) dX7_renew_29 rfl rfl (Nat.le_of_ble_eq_true rfl) rfl ?_
      refine gv_goto 32 S 17 dX7_renew_32 (by decide) ?_
      exact gv_sub [1, 2, 0] rfl (ih M4 v2 (v3 + (1 : Int32)) h)
set_option maxHeartbeats 4000000 in
set_option maxRecDepth 100000 in
theorem c_X7_renew (l : Launch) (X : GE) (M : MM) (k0 : Nat) (v1 : Int32) (v2 : Int32) (hk0 : isSh k0) (M' : MM) (h : f_X7_renew M k0 v1 v2 = some M') : CTv l yX7_renew wsX7_renew rm_X7_renew X [.ref (X.2.2 k0), .int v1, .int v2] M M' := by
  refine ct_v (own := RX7) (by decide +kernel) rfl rfl (Nat.le_of_ble_eq_true rfl) (lv0 := [(0, .ref (X.2.2 k0)), (1, .int v1), (2, .int v2)]) rfl ?_
  intro p e s m args below meth c S
  unfold f_X7_renew at h
  refine gv_aload_n 0 S 0 0 dX7_renew_0 rfl rfl ?_
  refine gv_iconst 1 S (1 : Int32) dX7_renew_1 (by decide) ?_
  refine gv_put 2 S h (hP_Sh_hasRow hk0) mp_X7_renew_15 rfl rfl dX7_renew_2 (fun M1 h => ?_)
  refine gv_aload_n 5 S 0 0 dX7_renew_5 rfl rfl ?_
  refine gv_iload_n 6 S 1 1 dX7_renew_6 rfl rfl ?_
  refine gv_put 7 S h (hP_Sh_lane hk0) mp_X7_renew_19 rfl rfl dX7_renew_7 (fun M2 h => ?_)
  refine gv_aload_n 10 S 0 0 dX7_renew_10 rfl rfl ?_
  refine gv_iload_n 11 S 2 2 dX7_renew_11 rfl rfl ?_
  refine gv_put 12 S h (hP_Sh_length hk0) mp_X7_renew_23 rfl rfl dX7_renew_12 (fun M3 h => ?_)
  refine gv_iconst 15 S (0 : Int32) dX7_renew_15 (by decide) ?_
  refine gv_istore_n 16 S 3 (lv' := [(3, .int (0 : Int32)), (0, .ref (X.2.2 k0)), (1, .int v1), (2, .int v2)]) dX7_renew_16 rfl (Nat.le_of_ble_eq_true rfl) rfl ?_
  exact gv_sub [1, 3, 0] rfl (t_X7_renew_17 S k0 hk0 FU M3 v2 (0 : Int32) h)
theorem mi_X7_set_7 : ∀ w ∈ u_ws RX7 TX7 4, w ∈ wsX7_set := by decide +kernel
theorem mf_X7_set_9 : MF wsX7_set RX7 9 7 0 := ⟨RX7, TX7, 4, rfl, by decide, mi_X7_set_7, by decide +kernel⟩
theorem mf_X7_set_19 : MF wsX7_set RX7 19 7 2 := ⟨RX7, TX7, 4, rfl, by decide, mi_X7_set_7, by decide +kernel⟩
abbrev rm_X7_set : Room := { frames := 0, cells := 0, slots := 0, locals := 0 }
set_option maxHeartbeats 4000000 in
set_option maxRecDepth 100000 in
theorem c_X7_set (l : Launch) (X : GE) (M : MM) (k0 : Nat) (v1 : Int32) (v2 : Int32) (hk0 : isSh k0) (M' : MM) (h : f_X7_set M k0 v1 v2 = some M') : CTv l yX7_set wsX7_set rm_X7_set X [.ref (X.2.2 k0), .int v1, .int v2] M M' := by
  refine ct_v (own := RX7) (by decide +kernel) rfl rfl (Nat.le_of_ble_eq_true rfl) (lv0 := [(0, .ref (X.2.2 k0)), (1, .int v1), (2, .int v2)]) rfl ?_
  intro p e s m args below meth c S
  unfold f_X7_set at h
  refine gv_aload_n 0 S 0 0 dX7_set_0 rfl rfl ?_
  refine gv_get 1 S (hF_Sh_cells hk0) mf_X7_set_9 dX7_set_1 ?_
  refine gv_iload_n 4 S 1 1 dX7_set_4 rfl rfl ?_
  refine gv_aload_n 5 S 0 0 dX7_set_5 rfl rfl ?_
  refine gv_get 6 S (hF_Sh_lane hk0) mf_X7_set_19 dX7_set_6 ?_
  refine gv_if_ne 9 S 17 h dX7_set_9 (by decide) (fun h => ?_) (fun h => ?_)
  · refine gv_aload_n 17 S 0 0 dX7_set_17 rfl rfl ?_
    refine gv_get 18 S (hF_Sh_lane hk0) mf_X7_set_19 dX7_set_18 ?_
    refine gv_iconst 21 S (1 : Int32) dX7_set_21 (by decide) ?_
    refine gv_icmp_ne 22 S 30 h dX7_set_22 (by decide) (fun h => ?_) (fun h => ?_)
    · refine gv_iload_n 30 S 2 2 dX7_set_30 rfl rfl ?_
      refine gv_iast 31 S h (hI_Sh_cells hk0) dX7_set_31 (fun M1 h => ?_)
      exact gv_vret 32 S h dX7_set_32
    · refine gv_iload_n 25 S 2 2 dX7_set_25 rfl rfl ?_
      refine gv_i2s 26 S dX7_set_26 ?_
      refine gv_goto 27 S 31 dX7_set_27 (by decide) ?_
      refine gv_iast 31 S h (hI_Sh_cells hk0) dX7_set_31 (fun M2 h => ?_)
      exact gv_vret 32 S h dX7_set_32
  · refine gv_iload_n 12 S 2 2 dX7_set_12 rfl rfl ?_
    refine gv_i2b 13 S dX7_set_13 ?_
    refine gv_goto 14 S 31 dX7_set_14 (by decide) ?_
    refine gv_iast 31 S h (hI_Sh_cells hk0) dX7_set_31 (fun M3 h => ?_)
    exact gv_vret 32 S h dX7_set_32
theorem mi_X7_hasCells_7 : ∀ w ∈ u_ws RX7 TX7 4, w ∈ wsX7_hasCells := by decide +kernel
theorem mf_X7_hasCells_23 : MF wsX7_hasCells RX7 23 7 3 := ⟨RX7, TX7, 4, rfl, by decide, mi_X7_hasCells_7, by decide +kernel⟩
abbrev rm_X7_hasCells : Room := { frames := 0, cells := 0, slots := 0, locals := 0 }
set_option maxHeartbeats 4000000 in
set_option maxRecDepth 100000 in
theorem c_X7_hasCells (l : Launch) (X : GE) (M : MM) (k0 : Nat) (v1 : Int32) (v2 : Int32) (hk0 : isSh k0) (r : Int32) (h : f_X7_hasCells M k0 v1 v2 = some r) : CTi l yX7_hasCells wsX7_hasCells rm_X7_hasCells X [.ref (X.2.2 k0), .int v1, .int v2] M r M := by
  refine ct_i (own := RX7) (by decide +kernel) rfl rfl (Nat.le_of_ble_eq_true rfl) (lv0 := [(0, .ref (X.2.2 k0)), (1, .int v1), (2, .int v2)]) rfl ?_
  intro p e s m args below meth c S
  unfold f_X7_hasCells at h
  refine gv_iload_n 0 S 1 1 dX7_hasCells_0 rfl rfl ?_
  refine gv_if_lt 1 S 26 h dX7_hasCells_1 (by decide) (fun h => ?_) (fun h => ?_)
  · refine gv_iconst 26 S (0 : Int32) dX7_hasCells_26 (by decide) ?_
    exact gv_zretR 27 S h rfl dX7_hasCells_27
  · refine gv_iload_n 4 S 1 1 dX7_hasCells_4 rfl rfl ?_
    refine gv_aload_n 5 S 0 0 dX7_hasCells_5 rfl rfl ?_
    refine gv_get 6 S (hF_Sh_length hk0) mf_X7_hasCells_23 dX7_hasCells_6 ?_
    refine gv_icmp_gt 9 S 26 h dX7_hasCells_9 (by decide) (fun h => ?_) (fun h => ?_)
    · refine gv_iconst 26 S (0 : Int32) dX7_hasCells_26 (by decide) ?_
      exact gv_zretR 27 S h rfl dX7_hasCells_27
    · refine gv_iload_n 12 S 2 2 dX7_hasCells_12 rfl rfl ?_
      refine gv_aload_n 13 S 0 0 dX7_hasCells_13 rfl rfl ?_
      refine gv_get 14 S (hF_Sh_length hk0) mf_X7_hasCells_23 dX7_hasCells_14 ?_
      refine gv_iload_n 17 S 1 1 dX7_hasCells_17 rfl rfl ?_
      refine gv_isub 18 S dX7_hasCells_18 ?_
      refine gv_icmp_gt 19 S 26 h dX7_hasCells_19 (by decide) (fun h => ?_) (fun h => ?_)
      · refine gv_iconst 26 S (0 : Int32) dX7_hasCells_26 (by decide) ?_
        exact gv_zretR 27 S h rfl dX7_hasCells_27
      · refine gv_iconst 22 S (1 : Int32) dX7_hasCells_22 (by decide) ?_
        refine gv_goto 23 S 27 dX7_hasCells_23 (by decide) ?_
        exact gv_zretR 27 S h rfl dX7_hasCells_27
theorem mi_X7_faultOf_7 : ∀ w ∈ u_ws RX7 TX7 4, w ∈ wsX7_faultOf := by decide +kernel
theorem mf_X7_faultOf_15 : MF wsX7_faultOf RX7 15 7 1 := ⟨RX7, TX7, 4, rfl, by decide, mi_X7_faultOf_7, by decide +kernel⟩
theorem mf_X7_faultOf_19 : MF wsX7_faultOf RX7 19 7 2 := ⟨RX7, TX7, 4, rfl, by decide, mi_X7_faultOf_7, by decide +kernel⟩
abbrev rm_X7_faultOf : Room := { frames := 1, cells := 0, slots := 0, locals := 22 }
set_option maxHeartbeats 4000000 in
set_option maxRecDepth 100000 in
theorem c_X7_faultOf (l : Launch) (X : GE) (M : MM) (k0 : Nat) (v1 : Int32) (v2 : Int32) (v3 : Int32) (hk0 : isSh k0) (r : Int32) (h : f_X7_faultOf M k0 v1 v2 v3 = some r) : CTi l yX7_faultOf wsX7_faultOf rm_X7_faultOf X [.ref (X.2.2 k0), .int v1, .int v2, .int v3] M r M := by
  refine ct_i (own := RX7) (by decide +kernel) rfl rfl (Nat.le_of_ble_eq_true rfl) (lv0 := [(0, .ref (X.2.2 k0)), (1, .int v1), (2, .int v2), (3, .int v3)]) rfl ?_
  intro p e s m args below meth c S
  unfold f_X7_faultOf at h
  refine gv_aload_n 0 S 0 0 dX7_faultOf_0 rfl rfl ?_
  refine gv_get 1 S (hF_Sh_hasRow hk0) mf_X7_faultOf_15 dX7_faultOf_1 ?_
  refine gv_if_ne 4 S 9 h dX7_faultOf_4 (by decide) (fun h => ?_) (fun h => ?_)
  · refine gv_aload_n 9 S 0 0 dX7_faultOf_9 rfl rfl ?_
    refine gv_get 10 S (hF_Sh_lane hk0) mf_X7_faultOf_19 dX7_faultOf_10 ?_
    refine gv_iload_n 13 S 1 1 dX7_faultOf_13 rfl rfl ?_
    refine gv_icmp_eq 14 S 19 h dX7_faultOf_14 (by decide) (fun h => ?_) (fun h => ?_)
    · refine gv_iload_n 19 S 3 3 dX7_faultOf_19 rfl rfl ?_
      refine gv_if_ge 20 S 25 h dX7_faultOf_20 (by decide) (fun h => ?_) (fun h => ?_)
      · refine gv_aload_n 25 S 0 0 dX7_faultOf_25 rfl rfl ?_
        refine gv_iload_n 26 S 2 2 dX7_faultOf_26 rfl rfl ?_
        refine gv_iload_n 27 S 3 3 dX7_faultOf_27 rfl rfl ?_
        obtain ⟨r1, hc2, h⟩ := br_some h
        refine gv_cVi 28 S (As := [.int v2, .int v3]) (rest := []) (c_X7_hasCells l X M k0 v2 v3 hk0 r1 hc2) (hO_Sh hk0) rfl (cwV 2 S.1.2.2.2.2 gX7_faultOf_X7_hasCells rfl rfl rfl (by decide +kernel) ⟨Nat.le_of_ble_eq_true rfl, Nat.le_of_ble_eq_true rfl⟩) rfl rfl (Nat.le_of_ble_eq_true rfl) dX7_faultOf_28 ?_
        refine gv_if_eq 31 S 38 h dX7_faultOf_31 (by decide) (fun h => ?_) (fun h => ?_)
        · refine gv_iconst 38 S (3 : Int32) dX7_faultOf_38 (by decide) ?_
          exact gv_iretR 39 S h dX7_faultOf_39
        · refine gv_iconst 34 S (0 : Int32) dX7_faultOf_34 (by decide) ?_
          refine gv_goto 35 S 39 dX7_faultOf_35 (by decide) ?_
          exact gv_iretR 39 S h dX7_faultOf_39
      · refine gv_iconst 23 S (4 : Int32) dX7_faultOf_23 (by decide) ?_
        exact gv_iretR 24 S h dX7_faultOf_24
    · refine gv_iconst 17 S (2 : Int32) dX7_faultOf_17 (by decide) ?_
      exact gv_iretR 18 S h dX7_faultOf_18
  · refine gv_iconst 7 S (1 : Int32) dX7_faultOf_7 (by decide) ?_
    exact gv_iretR 8 S h dX7_faultOf_8
theorem mi_X8_bring_2 : ∀ w ∈ u_ws RX2 TX2 3, w ∈ wsX8_bring := by decide +kernel
theorem mf_X8_bring_30 : MF wsX8_bring RX8 30 2 2 := ⟨RX2, TX2, 3, rfl, by decide, mi_X8_bring_2, by decide +kernel⟩
theorem mf_X8_bring_79 : MF wsX8_bring RX8 79 2 0 := ⟨RX2, TX2, 3, rfl, by decide, mi_X8_bring_2, by decide +kernel⟩
theorem mf_X8_bring_82 : MF wsX8_bring RX8 82 2 1 := ⟨RX2, TX2, 3, rfl, by decide, mi_X8_bring_2, by decide +kernel⟩
abbrev rm_X8_bring : Room := { frames := 0, cells := 0, slots := 0, locals := 0 }
set_option maxHeartbeats 4000000 in
set_option maxRecDepth 100000 in
theorem t_X8_bring_2 {p : Program} {l : Launch} {e : Env} {s : State} {m : MethodId} {args : Array Value} {below : List Frame} {meth : Method} {c : Code} {X : GE} {M' : MM} (S : CX p s m args meth c cX8_bring 4 wsX8_bring RX8 none X) (k2 : Nat) (hk2 : hI X k2 8) : ∀ (n : Nat) (M : MM) (v1 : Int32) (v3 : Int32) (h : g_X8_bring_2 k2 n M v1 v3 = some M'), V p l e (headSpec wsX8_bring rm_X8_bring).room s m args below meth c 4 X (MQ below (gQv X M') args s 0 0 (gA X)) M 2 [(0, .ref (X.2.2 65)), (1, .int v1), (2, .ref (X.2.2 k2)), (3, .int v3)] [] := by
  intro n
  induction n with
  | zero =>
    intro M v1 v3 h
    rw [g_X8_bring_2] at h
    cases h
  | succ n ih =>
    intro M v1 v3 h
    rw [g_X8_bring_2] at h
    refine gv_iload_n 2 S 3 3 dX8_bring_2 rfl rfl ?_
    refine gv_aload_n 3 S 0 0 dX8_bring_3 rfl rfl ?_
    refine gv_get 4 S (hF_65_count X) mf_X8_bring_30 dX8_bring_4 ?_
    refine gv_icmp_ge 7 S 39 h dX8_bring_7 (by decide) (fun h => ?_) (fun h => ?_)
    · exact gv_vret 39 S h dX8_bring_39
    · refine gv_iload_n 10 S 1 1 dX8_bring_10 rfl rfl ?_
      refine gv_iload_n 11 S 3 3 dX8_bring_11 rfl rfl ?_
      refine gv_ishr 12 S dX8_bring_12 ?_
      refine gv_iconst 13 S (1 : Int32) dX8_bring_13 (by decide) ?_
      refine gv_iand 14 S dX8_bring_14 ?_
      refine gv_iconst 15 S (1 : Int32) dX8_bring_15 (by decide) ?_
      refine gv_icmp_ne 16 S 33 h dX8_bring_16 (by decide) (fun h => ?_) (fun h => ?_)
      · refine gv_iinc 33 S 3 (v3 + (1 : Int32)) (lv' := [(3, .int (v3 + (1 : Int32))), (0, .ref (X.2.2 65)), (1, .int v1), (2, .ref (X.2.2 k2))]) dX8_bring_33 rfl rfl (Nat.le_of_ble_eq_true rfl) rfl ?_
        refine gv_goto 36 S 2 dX8_bring_36 (by decide) ?_
        exact gv_sub [1, 2, 3, 0] rfl (ih M v1 (v3 + (1 : Int32)) h)
      · refine gv_aload_n 19 S 2 2 dX8_bring_19 rfl rfl ?_
        refine gv_aload_n 20 S 0 0 dX8_bring_20 rfl rfl ?_
        refine gv_get 21 S (hF_65_batten X) mf_X8_bring_79 dX8_bring_21 ?_
        refine gv_iload_n 24 S 3 3 dX8_bring_24 rfl rfl ?_
        refine gv_iald 25 S h (hI_66 X) dX8_bring_25 (fun h => ?_)
        refine gv_aload_n 26 S 0 0 dX8_bring_26 rfl rfl ?_
        refine gv_get 27 S (hF_65_height X) mf_X8_bring_82 dX8_bring_27 ?_
        refine gv_iload_n 30 S 3 3 dX8_bring_30 rfl rfl ?_
        refine gv_iald 31 S h (hI_67 X) dX8_bring_31 (fun h => ?_)
        refine gv_iast 32 S h hk2 dX8_bring_32 (fun M1 h => ?_)
        refine gv_iinc 33 S 3 (v3 + (1 : Int32)) (lv' := [(3, .int (v3 + (1 : Int32))), (0, .ref (X.2.2 65)), (1, .int v1), (2, .ref (X.2.2 k2))]) dX8_bring_33 rfl rfl (Nat.le_of_ble_eq_true rfl) rfl ?_
        refine gv_goto 36 S 2 dX8_bring_36 (by decide) ?_
        exact gv_sub [1, 2, 3, 0] rfl (ih M1 v1 (v3 + (1 : Int32)) h)
set_option maxHeartbeats 4000000 in
set_option maxRecDepth 100000 in
theorem c_X8_bring (l : Launch) (X : GE) (M : MM) (v1 : Int32) (k2 : Nat) (hk2 : hI X k2 8) (M' : MM) (h : f_X8_bring M v1 k2 = some M') : CTv l yX8_bring wsX8_bring rm_X8_bring X [.ref (X.2.2 65), .int v1, .ref (X.2.2 k2)] M M' := by
  refine ct_v (own := RX8) (by decide +kernel) rfl rfl (Nat.le_of_ble_eq_true rfl) (lv0 := [(0, .ref (X.2.2 65)), (1, .int v1), (2, .ref (X.2.2 k2))]) rfl ?_
  intro p e s m args below meth c S
  unfold f_X8_bring at h
  refine gv_iconst 0 S (0 : Int32) dX8_bring_0 (by decide) ?_
  refine gv_istore_n 1 S 3 (lv' := [(3, .int (0 : Int32)), (0, .ref (X.2.2 65)), (1, .int v1), (2, .ref (X.2.2 k2))]) dX8_bring_1 rfl (Nat.le_of_ble_eq_true rfl) rfl ?_
  exact gv_sub [1, 2, 3, 0] rfl (t_X8_bring_2 S k2 hk2 FU M v1 (0 : Int32) h)
theorem mi_X8_nextBehind_1 : ∀ w ∈ u_ws RX1 TX1 4, w ∈ wsX8_nextBehind := by decide +kernel
theorem mf_X8_nextBehind_51 : MF wsX8_nextBehind RX8 51 1 2 := ⟨RX1, TX1, 4, rfl, by decide, mi_X8_nextBehind_1, by decide +kernel⟩
theorem mi_X8_nextBehind_6 : ∀ w ∈ u_ws RX6 TX6 6, w ∈ wsX8_nextBehind := by decide +kernel
theorem mf_X8_nextBehind_57 : MF wsX8_nextBehind RX8 57 6 2 := ⟨RX6, TX6, 6, rfl, by decide, mi_X8_nextBehind_6, by decide +kernel⟩
theorem mi_X8_nextBehind_8 : ∀ w ∈ u_ws RX8 TX8 7, w ∈ wsX8_nextBehind := by decide +kernel
theorem mf_X8_nextBehind_18 : MF wsX8_nextBehind RX8 18 8 2 := ⟨RX8, TX8, 7, rfl, by decide, mi_X8_nextBehind_8, by decide +kernel⟩
theorem mi_X8_nextBehind_2 : ∀ w ∈ u_ws RX2 TX2 3, w ∈ wsX8_nextBehind := by decide +kernel
theorem mf_X8_nextBehind_30 : MF wsX8_nextBehind RX8 30 2 2 := ⟨RX2, TX2, 3, rfl, by decide, mi_X8_nextBehind_2, by decide +kernel⟩
theorem mf_X8_nextBehind_21 : MF wsX8_nextBehind RX8 21 8 3 := ⟨RX8, TX8, 7, rfl, by decide, mi_X8_nextBehind_8, by decide +kernel⟩
theorem mf_X8_nextBehind_72 : MF wsX8_nextBehind RX8 72 6 4 := ⟨RX6, TX6, 6, rfl, by decide, mi_X8_nextBehind_6, by decide +kernel⟩
abbrev rm_X8_nextBehind : Room := { frames := 4, cells := 0, slots := 0, locals := 82 }
set_option maxHeartbeats 4000000 in
set_option maxRecDepth 100000 in
theorem t_X8_nextBehind_33 {p : Program} {l : Launch} {e : Env} {s : State} {m : MethodId} {args : Array Value} {below : List Frame} {meth : Method} {c : Code} {X : GE} {r : Int32} {M' : MM} (S : CX p s m args meth c cX8_nextBehind 6 wsX8_nextBehind RX8 (some .int) X) : ∀ (n : Nat) (M : MM) (v3 : Int32) (v4 : Int32) (v5 : Int32) (h : g_X8_nextBehind_33 n M v3 v4 v5 = some (r, M')), V p l e (headSpec wsX8_nextBehind rm_X8_nextBehind).room s m args below meth c 6 X (MQ below (gQi X r M') args s 0 0 (gA X)) M 33 [(0, .ref (X.2.2 76)), (1, .ref (X.2.2 20)), (2, .ref (X.2.2 65)), (3, .int v3), (4, .int v4), (5, .int v5)] [] := by
  intro n
  induction n with
  | zero =>
    intro M v3 v4 v5 h
    rw [g_X8_nextBehind_33] at h
    cases h
  | succ n ih =>
    intro M v3 v4 v5 h
    rw [g_X8_nextBehind_33] at h
    refine gv_iload 33 S 5 dX8_nextBehind_33 rfl ?_
    refine gv_iconst 35 S (1 : Int32) dX8_nextBehind_35 (by decide) ?_
    refine gv_aload_n 36 S 2 2 dX8_nextBehind_36 rfl rfl ?_
    refine gv_get 37 S (hF_65_count X) mf_X8_nextBehind_30 dX8_nextBehind_37 ?_
    refine gv_ishl 40 S dX8_nextBehind_40 ?_
    refine gv_icmp_ge 41 S 117 h dX8_nextBehind_41 (by decide) (fun h => ?_) (fun h => ?_)
    · refine gv_iload 117 S 4 dX8_nextBehind_117 rfl ?_
      exact gv_iret 119 S h dX8_nextBehind_119
    · refine gv_iload 44 S 5 dX8_nextBehind_44 rfl ?_
      refine gv_iload_n 46 S 3 3 dX8_nextBehind_46 rfl rfl ?_
      refine gv_iand 47 S dX8_nextBehind_47 ?_
      refine gv_if_ne 48 S 111 h dX8_nextBehind_48 (by decide) (fun h => ?_) (fun h => ?_)
      · refine gv_iinc 111 S 5 (v5 + (1 : Int32)) (lv' := [(5, .int (v5 + (1 : Int32))), (0, .ref (X.2.2 76)), (1, .ref (X.2.2 20)), (2, .ref (X.2.2 65)), (3, .int v3), (4, .int v4)]) dX8_nextBehind_111 rfl rfl (Nat.le_of_ble_eq_true rfl) rfl ?_
        refine gv_goto 114 S 33 dX8_nextBehind_114 (by decide) ?_
        exact gv_sub [1, 2, 3, 4, 5, 0] rfl (ih M v3 v4 (v5 + (1 : Int32)) h)
      · refine gv_aload_n 51 S 0 0 dX8_nextBehind_51 rfl rfl ?_
        refine gv_get 52 S (hF_76_before X) mf_X8_nextBehind_18 dX8_nextBehind_52 ?_
        refine gv_iconst 55 S (0 : Int32) dX8_nextBehind_55 (by decide) ?_
        refine gv_aload_n 56 S 0 0 dX8_nextBehind_56 rfl rfl ?_
        refine gv_get 57 S (hF_76_after X) mf_X8_nextBehind_21 dX8_nextBehind_57 ?_
        refine gv_iconst 60 S (0 : Int32) dX8_nextBehind_60 (by decide) ?_
        refine gv_bipush 61 S (8 : Int32) dX8_nextBehind_61 (by decide) ?_
        refine gv_copy 63 S h (hI_79 X) (hI_80 X) (by decide +kernel) (by decide +kernel) (by decide +kernel) (by decide +kernel) (Nat.le_of_ble_eq_true rfl) (Nat.le_of_ble_eq_true rfl) dX8_nextBehind_63 (fun M5 h => ?_)
        refine gv_aload_n 66 S 2 2 dX8_nextBehind_66 rfl rfl ?_
        refine gv_iload 67 S 5 dX8_nextBehind_67 rfl ?_
        refine gv_aload_n 69 S 0 0 dX8_nextBehind_69 rfl rfl ?_
        refine gv_get 70 S (hF_76_after X) mf_X8_nextBehind_21 dX8_nextBehind_70 ?_
        obtain ⟨M7, hc8, h⟩ := br_some h
        refine gv_cSv 73 S (As := [.ref (X.2.2 65), .int v5, .ref (X.2.2 80)]) (rest := []) (c_X8_bring l X M5 v5 80 (hI_80 X) M7 hc8) (va_cwS 3 S.1.2.2.2.2 gX8_nextBehind_X8_bring rfl rfl rfl (by decide +kernel) ⟨Nat.le_of_ble_eq_true rfl, Nat.le_of_ble_eq_true rfl⟩) rfl rfl (Nat.le_of_ble_eq_true rfl) dX8_nextBehind_73 ?_
        refine gv_iload 76 S 4 dX8_nextBehind_76 rfl ?_
        refine gv_aload_n 78 S 1 1 dX8_nextBehind_78 rfl rfl ?_
        refine gv_aload_n 79 S 0 0 dX8_nextBehind_79 rfl rfl ?_
        refine gv_get 80 S (hF_76_before X) mf_X8_nextBehind_18 dX8_nextBehind_80 ?_
        refine gv_aload_n 83 S 0 0 dX8_nextBehind_83 rfl rfl ?_
        refine gv_get 84 S (hF_76_after X) mf_X8_nextBehind_21 dX8_nextBehind_84 ?_
        refine gv_aload_n 87 S 1 1 dX8_nextBehind_87 rfl rfl ?_
        refine gv_get 88 S (hF_20_now X) mf_X8_nextBehind_51 dX8_nextBehind_88 ?_
        refine gv_get 91 S (hF_23_hands X) mf_X8_nextBehind_72 dX8_nextBehind_91 ?_
        obtain ⟨r9, hc10, h⟩ := br_some h
        refine gv_cVi 94 S (As := [.ref (X.2.2 79), .ref (X.2.2 80), .int (M7 23 4)]) (rest := [.int v4]) (c_X1_canBe l X M7 79 80 (M7 23 4) (hI_79 X) (hI_80 X) r9 hc10) (hO_20 X) rfl (cwV 3 S.1.2.2.2.2 gX8_nextBehind_X1_canBe rfl rfl rfl (by decide +kernel) ⟨Nat.le_of_ble_eq_true rfl, Nat.le_of_ble_eq_true rfl⟩) rfl rfl (Nat.le_of_ble_eq_true rfl) dX8_nextBehind_94 ?_
        refine gv_if_eq 97 S 107 h dX8_nextBehind_97 (by decide) (fun h => ?_) (fun h => ?_)
        · refine gv_iconst 107 S (0 : Int32) dX8_nextBehind_107 (by decide) ?_
          refine gv_ior 108 S dX8_nextBehind_108 ?_
          refine gv_nmi h (fun x11 h => ?_)
          refine gv_istore 109 S (lv' := [(4, .int x11), (0, .ref (X.2.2 76)), (1, .ref (X.2.2 20)), (2, .ref (X.2.2 65)), (3, .int v3), (5, .int v5)]) dX8_nextBehind_109 (Nat.le_of_ble_eq_true rfl) rfl ?_
          refine gv_iinc 111 S 5 (v5 + (1 : Int32)) (lv' := [(5, .int (v5 + (1 : Int32))), (4, .int x11), (0, .ref (X.2.2 76)), (1, .ref (X.2.2 20)), (2, .ref (X.2.2 65)), (3, .int v3)]) dX8_nextBehind_111 rfl rfl (Nat.le_of_ble_eq_true rfl) rfl ?_
          refine gv_goto 114 S 33 dX8_nextBehind_114 (by decide) ?_
          exact gv_sub [2, 3, 4, 5, 1, 0] rfl (ih M7 v3 x11 (v5 + (1 : Int32)) h)
        · refine gv_iconst 100 S (1 : Int32) dX8_nextBehind_100 (by decide) ?_
          refine gv_iload 101 S 5 dX8_nextBehind_101 rfl ?_
          refine gv_ishl 103 S dX8_nextBehind_103 ?_
          refine gv_goto 104 S 108 dX8_nextBehind_104 (by decide) ?_
          refine gv_ior 108 S dX8_nextBehind_108 ?_
          refine gv_nmi h (fun x12 h => ?_)
          refine gv_istore 109 S (lv' := [(4, .int x12), (0, .ref (X.2.2 76)), (1, .ref (X.2.2 20)), (2, .ref (X.2.2 65)), (3, .int v3), (5, .int v5)]) dX8_nextBehind_109 (Nat.le_of_ble_eq_true rfl) rfl ?_
          refine gv_iinc 111 S 5 (v5 + (1 : Int32)) (lv' := [(5, .int (v5 + (1 : Int32))), (4, .int x12), (0, .ref (X.2.2 76)), (1, .ref (X.2.2 20)), (2, .ref (X.2.2 65)), (3, .int v3)]) dX8_nextBehind_111 rfl rfl (Nat.le_of_ble_eq_true rfl) rfl ?_
          refine gv_goto 114 S 33 dX8_nextBehind_114 (by decide) ?_
          exact gv_sub [2, 3, 4, 5, 1, 0] rfl (ih M7 v3 x12 (v5 + (1 : Int32)) h)
set_option maxHeartbeats 4000000 in
set_option maxRecDepth 100000 in
theorem c_X8_nextBehind (l : Launch) (X : GE) (M : MM) (v3 : Int32) (r : Int32) (M' : MM) (h : f_X8_nextBehind M v3 = some (r, M')) : CTi l yX8_nextBehind wsX8_nextBehind rm_X8_nextBehind X [.ref (X.2.2 76), .ref (X.2.2 20), .ref (X.2.2 65), .int v3] M r M' := by
  refine ct_i (own := RX8) (by decide +kernel) rfl rfl (Nat.le_of_ble_eq_true rfl) (lv0 := [(0, .ref (X.2.2 76)), (1, .ref (X.2.2 20)), (2, .ref (X.2.2 65)), (3, .int v3)]) rfl ?_
  intro p e s m args below meth c S
  unfold f_X8_nextBehind at h
  refine gv_iconst 0 S (0 : Int32) dX8_nextBehind_0 (by decide) ?_
  refine gv_istore 1 S (lv' := [(4, .int (0 : Int32)), (0, .ref (X.2.2 76)), (1, .ref (X.2.2 20)), (2, .ref (X.2.2 65)), (3, .int v3)]) dX8_nextBehind_1 (Nat.le_of_ble_eq_true rfl) rfl ?_
  refine gv_aload_n 3 S 1 2 dX8_nextBehind_3 rfl rfl ?_
  refine gv_get 4 S (hF_20_now X) mf_X8_nextBehind_51 dX8_nextBehind_4 ?_
  refine gv_get 7 S (hF_23_height X) mf_X8_nextBehind_57 dX8_nextBehind_7 ?_
  refine gv_iconst 10 S (0 : Int32) dX8_nextBehind_10 (by decide) ?_
  refine gv_aload_n 11 S 0 1 dX8_nextBehind_11 rfl rfl ?_
  refine gv_get 12 S (hF_76_before X) mf_X8_nextBehind_18 dX8_nextBehind_12 ?_
  refine gv_iconst 15 S (0 : Int32) dX8_nextBehind_15 (by decide) ?_
  refine gv_bipush 16 S (8 : Int32) dX8_nextBehind_16 (by decide) ?_
  refine gv_copy 18 S h (hI_26 X) (hI_79 X) (by decide +kernel) (by decide +kernel) (by decide +kernel) (by decide +kernel) (Nat.le_of_ble_eq_true rfl) (Nat.le_of_ble_eq_true rfl) dX8_nextBehind_18 (fun M1 h => ?_)
  refine gv_aload_n 21 S 2 3 dX8_nextBehind_21 rfl rfl ?_
  refine gv_iload_n 22 S 3 4 dX8_nextBehind_22 rfl rfl ?_
  refine gv_aload_n 23 S 0 1 dX8_nextBehind_23 rfl rfl ?_
  refine gv_get 24 S (hF_76_before X) mf_X8_nextBehind_18 dX8_nextBehind_24 ?_
  obtain ⟨M3, hc4, h⟩ := br_some h
  refine gv_cSv 27 S (As := [.ref (X.2.2 65), .int v3, .ref (X.2.2 79)]) (rest := []) (c_X8_bring l X M1 v3 79 (hI_79 X) M3 hc4) (va_cwS 3 S.1.2.2.2.2 gX8_nextBehind_X8_bring rfl rfl rfl (by decide +kernel) ⟨Nat.le_of_ble_eq_true rfl, Nat.le_of_ble_eq_true rfl⟩) rfl rfl (Nat.le_of_ble_eq_true rfl) dX8_nextBehind_27 ?_
  refine gv_iconst 30 S (1 : Int32) dX8_nextBehind_30 (by decide) ?_
  refine gv_istore 31 S (lv' := [(5, .int (1 : Int32)), (4, .int (0 : Int32)), (0, .ref (X.2.2 76)), (1, .ref (X.2.2 20)), (2, .ref (X.2.2 65)), (3, .int v3)]) dX8_nextBehind_31 (Nat.le_of_ble_eq_true rfl) rfl ?_
  exact gv_sub [2, 3, 4, 5, 1, 0] rfl (t_X8_nextBehind_33 S FU M3 v3 (0 : Int32) (1 : Int32) h)
theorem mi_X8_fewestBehind_8 : ∀ w ∈ u_ws RX8 TX8 7, w ∈ wsX8_fewestBehind := by decide +kernel
theorem mf_X8_fewestBehind_11 : MF wsX8_fewestBehind RX8 11 8 0 := ⟨RX8, TX8, 7, rfl, by decide, mi_X8_fewestBehind_8, by decide +kernel⟩
theorem mf_X8_fewestBehind_15 : MF wsX8_fewestBehind RX8 15 8 1 := ⟨RX8, TX8, 7, rfl, by decide, mi_X8_fewestBehind_8, by decide +kernel⟩
abbrev rm_X8_fewestBehind : Room := { frames := 1, cells := 0, slots := 0, locals := 13 }
set_option maxHeartbeats 4000000 in
set_option maxRecDepth 100000 in
theorem t_X8_fewestBehind_6 {p : Program} {l : Launch} {e : Env} {s : State} {m : MethodId} {args : Array Value} {below : List Frame} {meth : Method} {c : Code} {X : GE} {M : MM} {r : Int32} (S : CX p s m args meth c cX8_fewestBehind 6 wsX8_fewestBehind RX8 (some .int) X) : ∀ (n : Nat) (v1 : Int32) (v2 : Int32) (v3 : Int32) (v4 : Int32) (h : g_X8_fewestBehind_6 M n v1 v2 v3 v4 = some r), V p l e (headSpec wsX8_fewestBehind rm_X8_fewestBehind).room s m args below meth c 6 X (MQ below (gQi X r M) args s 0 0 (gA X)) M 6 [(0, .ref (X.2.2 76)), (1, .int v1), (2, .int v2), (3, .int v3), (4, .int v4)] [] := by
  intro n
  induction n with
  | zero =>
    intro v1 v2 v3 v4 h
    rw [g_X8_fewestBehind_6] at h
    cases h
  | succ n ih =>
    intro v1 v2 v3 v4 h
    rw [g_X8_fewestBehind_6] at h
    refine gv_iload 6 S 4 dX8_fewestBehind_6 rfl ?_
    refine gv_iload_n 8 S 2 2 dX8_fewestBehind_8 rfl rfl ?_
    refine gv_icmp_gt 9 S 78 h dX8_fewestBehind_9 (by decide) (fun h => ?_) (fun h => ?_)
    · refine gv_iload_n 78 S 3 3 dX8_fewestBehind_78 rfl rfl ?_
      exact gv_iretR 79 S h dX8_fewestBehind_79
    · refine gv_aload_n 12 S 0 0 dX8_fewestBehind_12 rfl rfl ?_
      refine gv_get 13 S (hF_76_next X) mf_X8_fewestBehind_11 dX8_fewestBehind_13 ?_
      refine gv_iload_n 16 S 1 1 dX8_fewestBehind_16 rfl rfl ?_
      refine gv_iald 17 S h (hI_77 X) dX8_fewestBehind_17 (fun h => ?_)
      refine gv_iload 18 S 4 dX8_fewestBehind_18 rfl ?_
      refine gv_iushr 20 S dX8_fewestBehind_20 ?_
      refine gv_iconst 21 S (1 : Int32) dX8_fewestBehind_21 (by decide) ?_
      refine gv_iand 22 S dX8_fewestBehind_22 ?_
      refine gv_iconst 23 S (1 : Int32) dX8_fewestBehind_23 (by decide) ?_
      refine gv_icmp_ne 24 S 72 h dX8_fewestBehind_24 (by decide) (fun h => ?_) (fun h => ?_)
      · refine gv_iinc 72 S 4 (v4 + (1 : Int32)) (lv' := [(4, .int (v4 + (1 : Int32))), (0, .ref (X.2.2 76)), (1, .int v1), (2, .int v2), (3, .int v3)]) dX8_fewestBehind_72 rfl rfl (Nat.le_of_ble_eq_true rfl) rfl ?_
        refine gv_goto 75 S 6 dX8_fewestBehind_75 (by decide) ?_
        exact gv_sub [1, 2, 3, 4, 0] rfl (ih v1 v2 v3 (v4 + (1 : Int32)) h)
      · refine gv_aload_n 27 S 0 0 dX8_fewestBehind_27 rfl rfl ?_
        refine gv_get 28 S (hF_76_fewest X) mf_X8_fewestBehind_15 dX8_fewestBehind_28 ?_
        refine gv_iload_n 31 S 1 1 dX8_fewestBehind_31 rfl rfl ?_
        refine gv_iload 32 S 4 dX8_fewestBehind_32 rfl ?_
        refine gv_ior 34 S dX8_fewestBehind_34 ?_
        refine gv_iald 35 S h (hI_78 X) dX8_fewestBehind_35 (fun h => ?_)
        refine gv_bipush 36 S (-9 : Int32) dX8_fewestBehind_36 (by decide) ?_
        refine gv_icmp_eq 38 S 72 h dX8_fewestBehind_38 (by decide) (fun h => ?_) (fun h => ?_)
        · refine gv_iinc 72 S 4 (v4 + (1 : Int32)) (lv' := [(4, .int (v4 + (1 : Int32))), (0, .ref (X.2.2 76)), (1, .int v1), (2, .int v2), (3, .int v3)]) dX8_fewestBehind_72 rfl rfl (Nat.le_of_ble_eq_true rfl) rfl ?_
          refine gv_goto 75 S 6 dX8_fewestBehind_75 (by decide) ?_
          exact gv_sub [1, 2, 3, 4, 0] rfl (ih v1 v2 v3 (v4 + (1 : Int32)) h)
        · refine gv_aload_n 41 S 0 0 dX8_fewestBehind_41 rfl rfl ?_
          refine gv_get 42 S (hF_76_fewest X) mf_X8_fewestBehind_15 dX8_fewestBehind_42 ?_
          refine gv_iload_n 45 S 1 1 dX8_fewestBehind_45 rfl rfl ?_
          refine gv_iload 46 S 4 dX8_fewestBehind_46 rfl ?_
          refine gv_ior 48 S dX8_fewestBehind_48 ?_
          refine gv_iald 49 S h (hI_78 X) dX8_fewestBehind_49 (fun h => ?_)
          refine gv_iconst 50 S (1 : Int32) dX8_fewestBehind_50 (by decide) ?_
          refine gv_iadd 51 S dX8_fewestBehind_51 ?_
          refine gv_nmi h (fun x1 h => ?_)
          refine gv_istore 52 S (lv' := [(5, .int x1), (0, .ref (X.2.2 76)), (1, .int v1), (2, .int v2), (3, .int v3), (4, .int v4)]) dX8_fewestBehind_52 (Nat.le_of_ble_eq_true rfl) rfl ?_
          refine gv_iload_n 54 S 3 4 dX8_fewestBehind_54 rfl rfl ?_
          refine gv_bipush 55 S (-9 : Int32) dX8_fewestBehind_55 (by decide) ?_
          refine gv_icmp_ne 57 S 65 h dX8_fewestBehind_57 (by decide) (fun h => ?_) (fun h => ?_)
          · refine gv_iload_n 65 S 3 4 dX8_fewestBehind_65 rfl rfl ?_
            refine gv_iload 66 S 0 dX8_fewestBehind_66 rfl ?_
            refine gv_mmin 68 S (by decide +kernel) (by decide +kernel) (by decide +kernel) (by decide +kernel) (Nat.le_of_ble_eq_true rfl) (Nat.le_of_ble_eq_true rfl) dX8_fewestBehind_68 ?_
            refine gv_nmi h (fun x2 h => ?_)
            refine gv_istore_n 71 S 3 (lv' := [(3, .int x2), (5, .int x1), (0, .ref (X.2.2 76)), (1, .int v1), (2, .int v2), (4, .int v4)]) dX8_fewestBehind_71 rfl (Nat.le_of_ble_eq_true rfl) rfl ?_
            refine gv_iinc 72 S 5 (v4 + (1 : Int32)) (lv' := [(4, .int (v4 + (1 : Int32))), (3, .int x2), (5, .int x1), (0, .ref (X.2.2 76)), (1, .int v1), (2, .int v2)]) dX8_fewestBehind_72 rfl rfl (Nat.le_of_ble_eq_true rfl) rfl ?_
            refine gv_goto 75 S 6 dX8_fewestBehind_75 (by decide) ?_
            exact gv_sub [3, 4, 5, 1, 0] rfl (ih v1 v2 x2 (v4 + (1 : Int32)) h)
          · refine gv_iload 60 S 0 dX8_fewestBehind_60 rfl ?_
            refine gv_goto 62 S 71 dX8_fewestBehind_62 (by decide) ?_
            refine gv_istore_n 71 S 3 (lv' := [(3, .int x1), (5, .int x1), (0, .ref (X.2.2 76)), (1, .int v1), (2, .int v2), (4, .int v4)]) dX8_fewestBehind_71 rfl (Nat.le_of_ble_eq_true rfl) rfl ?_
            refine gv_iinc 72 S 5 (v4 + (1 : Int32)) (lv' := [(4, .int (v4 + (1 : Int32))), (3, .int x1), (5, .int x1), (0, .ref (X.2.2 76)), (1, .int v1), (2, .int v2)]) dX8_fewestBehind_72 rfl rfl (Nat.le_of_ble_eq_true rfl) rfl ?_
            refine gv_goto 75 S 6 dX8_fewestBehind_75 (by decide) ?_
            exact gv_sub [3, 4, 5, 1, 0] rfl (ih v1 v2 x1 (v4 + (1 : Int32)) h)
set_option maxHeartbeats 4000000 in
set_option maxRecDepth 100000 in
theorem c_X8_fewestBehind (l : Launch) (X : GE) (M : MM) (v1 : Int32) (v2 : Int32) (r : Int32) (h : f_X8_fewestBehind M v1 v2 = some r) : CTi l yX8_fewestBehind wsX8_fewestBehind rm_X8_fewestBehind X [.ref (X.2.2 76), .int v1, .int v2] M r M := by
  refine ct_i (own := RX8) (by decide +kernel) rfl rfl (Nat.le_of_ble_eq_true rfl) (lv0 := [(0, .ref (X.2.2 76)), (1, .int v1), (2, .int v2)]) rfl ?_
  intro p e s m args below meth c S
  unfold f_X8_fewestBehind at h
  refine gv_bipush 0 S (-9 : Int32) dX8_fewestBehind_0 (by decide) ?_
  refine gv_istore_n 2 S 3 (lv' := [(3, .int (-9 : Int32)), (0, .ref (X.2.2 76)), (1, .int v1), (2, .int v2)]) dX8_fewestBehind_2 rfl (Nat.le_of_ble_eq_true rfl) rfl ?_
  refine gv_iconst 3 S (1 : Int32) dX8_fewestBehind_3 (by decide) ?_
  refine gv_istore 4 S (lv' := [(4, .int (1 : Int32)), (3, .int (-9 : Int32)), (0, .ref (X.2.2 76)), (1, .int v1), (2, .int v2)]) dX8_fewestBehind_4 (Nat.le_of_ble_eq_true rfl) rfl ?_
  exact gv_sub [2, 3, 4, 1, 0] rfl (t_X8_fewestBehind_6 S FU v1 v2 (-9 : Int32) (1 : Int32) h)
