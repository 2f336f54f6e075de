theorem mi_X10_loads_10 : ∀ w ∈ u_ws RX10 TX10 12, w ∈ wsX10_loads := by decide +kernel
theorem mf_X10_loads_32 : MF wsX10_loads RX10 32 9 1 := ⟨RX10, TX10, 12, rfl, by decide, mi_X10_loads_10, by decide +kernel⟩
theorem mi_X10_loads_1 : ∀ w ∈ u_ws RX1 TX1 4, w ∈ wsX10_loads := by decide +kernel
theorem mf_X10_loads_121 : MF wsX10_loads RX10 121 1 0 := ⟨RX1, TX1, 4, rfl, by decide, mi_X10_loads_1, by decide +kernel⟩
theorem mf_X10_loads_124 : MF wsX10_loads RX10 124 1 2 := ⟨RX1, TX1, 4, rfl, by decide, mi_X10_loads_1, by decide +kernel⟩
theorem mi_X10_loads_6 : ∀ w ∈ u_ws RX6 TX6 6, w ∈ wsX10_loads := by decide +kernel
theorem mf_X10_loads_131 : MF wsX10_loads RX10 131 6 1 := ⟨RX6, TX6, 6, rfl, by decide, mi_X10_loads_6, by decide +kernel⟩
theorem mf_X10_loads_46 : MF wsX10_loads RX10 46 9 5 := ⟨RX10, TX10, 12, rfl, by decide, mi_X10_loads_10, by decide +kernel⟩
abbrev rm_X10_loads : Room := { frames := 4, cells := 0, slots := 0, locals := 82 }
set_option maxHeartbeats 4000000 in
set_option maxRecDepth 100000 in
theorem t_X10_loads_17 {p : Program} {l : Launch} {e : Env} {s : State} {m : MethodId} {args : Array Value} {below : List Frame} {meth : Method} {c : Code} {X : GE} {M : MM} {r : Int32} (S : CX p s m args meth c cX10_loads 5 wsX10_loads RX10 (some .int) X) : ∀ (n : Nat) (v1 : Int32) (v2 : Int32) (v3 : Int32) (h : g_X10_loads_17 M n v1 v2 v3 = some r), V p l e (headSpec wsX10_loads rm_X10_loads).room s m args below meth c 5 X (MQ below (gQi X r M) args s 0 0 (gA X)) M 17 [(0, .ref (X.2.2 0)), (1, .int v1), (2, .int v2), (3, .int v3)] [] := by
  intro n
  induction n with
  | zero =>
    intro v1 v2 v3 h
    rw [g_X10_loads_17] at h
    cases h
  | succ n ih =>
    intro v1 v2 v3 h
    rw [g_X10_loads_17] at h
    refine gv_iload_n 17 S 3 3 dX10_loads_17 rfl rfl ?_
    refine gv_bipush 18 S (9 : Int32) dX10_loads_18 (by decide) ?_
    refine gv_icmp_gt 20 S 83 h dX10_loads_20 (by decide) (fun h => ?_) (fun h => ?_)
    · refine gv_iload_n 83 S 2 2 dX10_loads_83 rfl rfl ?_
      exact gv_iretR 84 S h dX10_loads_84
    · refine gv_aload_n 23 S 0 0 dX10_loads_23 rfl rfl ?_
      refine gv_get 24 S (hF_0_loft X) mf_X10_loads_32 dX10_loads_24 ?_
      refine gv_get 27 S (hF_20_kind X) mf_X10_loads_121 dX10_loads_27 ?_
      refine gv_iload_n 30 S 1 1 dX10_loads_30 rfl rfl ?_
      refine gv_iald 31 S h (hI_21 X) dX10_loads_31 (fun h => ?_)
      refine gv_iload_n 32 S 3 3 dX10_loads_32 rfl rfl ?_
      refine gv_aload_n 33 S 0 0 dX10_loads_33 rfl rfl ?_
      refine gv_get 34 S (hF_0_loft X) mf_X10_loads_32 dX10_loads_34 ?_
      refine gv_get 37 S (hF_20_now X) mf_X10_loads_124 dX10_loads_37 ?_
      refine gv_get 40 S (hF_23_bricks X) mf_X10_loads_131 dX10_loads_40 ?_
      refine gv_iload_n 43 S 1 1 dX10_loads_43 rfl rfl ?_
      refine gv_iald 44 S h (hI_25 X) dX10_loads_44 (fun h => ?_)
      obtain ⟨r3, hc4, h⟩ := br_some h
      refine gv_cSi 45 S (As := [.int (M 21 v1.toNatClampNeg), .int v3, .int (M 25 v1.toNatClampNeg)]) (rest := []) (c_X10_pullOf l X M (M 21 v1.toNatClampNeg) v3 (M 25 v1.toNatClampNeg) r3 hc4) (va_cwS 3 S.1.2.2.2.2 gX10_loads_X10_pullOf rfl rfl rfl (by decide +kernel) ⟨Nat.le_of_ble_eq_true rfl, Nat.le_of_ble_eq_true rfl⟩) rfl rfl (Nat.le_of_ble_eq_true rfl) dX10_loads_45 ?_
      refine gv_istore 48 S (lv' := [(4, .int r3), (0, .ref (X.2.2 0)), (1, .int v1), (2, .int v2), (3, .int v3)]) dX10_loads_48 (Nat.le_of_ble_eq_true rfl) rfl ?_
      refine gv_iload_n 50 S 2 3 dX10_loads_50 rfl rfl ?_
      refine gv_aload_n 51 S 0 1 dX10_loads_51 rfl rfl ?_
      refine gv_get 52 S (hF_0_readings X) mf_X10_loads_46 dX10_loads_52 ?_
      refine gv_aload_n 55 S 0 1 dX10_loads_55 rfl rfl ?_
      refine gv_get 56 S (hF_0_loft X) mf_X10_loads_32 dX10_loads_56 ?_
      refine gv_iload_n 59 S 1 2 dX10_loads_59 rfl rfl ?_
      refine gv_iload 60 S 0 dX10_loads_60 rfl ?_
      obtain ⟨r5, hc6, h⟩ := br_some h
      refine gv_cVi 62 S (As := [.ref (X.2.2 20), .int v1, .int r3]) (rest := [.int v2]) (c_X5_areSo l X M v1 r3 r5 hc6) (hO_61 X) rfl (cwV 3 S.1.2.2.2.2 gX10_loads_X5_areSo rfl rfl rfl (by decide +kernel) ⟨Nat.le_of_ble_eq_true rfl, Nat.le_of_ble_eq_true rfl⟩) rfl rfl (Nat.le_of_ble_eq_true rfl) dX10_loads_62 ?_
      refine gv_if_eq 65 S 74 h dX10_loads_65 (by decide) (fun h => ?_) (fun h => ?_)
      · refine gv_iconst 74 S (0 : Int32) dX10_loads_74 (by decide) ?_
        refine gv_ior 75 S dX10_loads_75 ?_
        refine gv_nmi h (fun x7 h => ?_)
        refine gv_istore_n 76 S 2 (lv' := [(2, .int x7), (4, .int r3), (0, .ref (X.2.2 0)), (1, .int v1), (3, .int v3)]) dX10_loads_76 rfl (Nat.le_of_ble_eq_true rfl) rfl ?_
        refine gv_iinc 77 S 4 (v3 + (1 : Int32)) (lv' := [(3, .int (v3 + (1 : Int32))), (2, .int x7), (4, .int r3), (0, .ref (X.2.2 0)), (1, .int v1)]) dX10_loads_77 rfl rfl (Nat.le_of_ble_eq_true rfl) rfl ?_
        refine gv_goto 80 S 17 dX10_loads_80 (by decide) ?_
        exact gv_sub [3, 4, 1, 0] rfl (ih v1 x7 (v3 + (1 : Int32)) h)
      · refine gv_iconst 68 S (1 : Int32) dX10_loads_68 (by decide) ?_
        refine gv_iload_n 69 S 3 4 dX10_loads_69 rfl rfl ?_
        refine gv_ishl 70 S dX10_loads_70 ?_
        refine gv_goto 71 S 75 dX10_loads_71 (by decide) ?_
        refine gv_ior 75 S dX10_loads_75 ?_
        refine gv_nmi h (fun x8 h => ?_)
        refine gv_istore_n 76 S 2 (lv' := [(2, .int x8), (4, .int r3), (0, .ref (X.2.2 0)), (1, .int v1), (3, .int v3)]) dX10_loads_76 rfl (Nat.le_of_ble_eq_true rfl) rfl ?_
        refine gv_iinc 77 S 4 (v3 + (1 : Int32)) (lv' := [(3, .int (v3 + (1 : Int32))), (2, .int x8), (4, .int r3), (0, .ref (X.2.2 0)), (1, .int v1)]) dX10_loads_77 rfl rfl (Nat.le_of_ble_eq_true rfl) rfl ?_
        refine gv_goto 80 S 17 dX10_loads_80 (by decide) ?_
        exact gv_sub [3, 4, 1, 0] rfl (ih v1 x8 (v3 + (1 : Int32)) h)
set_option maxHeartbeats 4000000 in
set_option maxRecDepth 100000 in
theorem c_X10_loads (l : Launch) (X : GE) (M : MM) (v1 : Int32) (r : Int32) (h : f_X10_loads M v1 = some r) : CTi l yX10_loads wsX10_loads rm_X10_loads X [.ref (X.2.2 0), .int v1] M r M := by
  refine ct_i (own := RX10) (by decide +kernel) rfl rfl (Nat.le_of_ble_eq_true rfl) (lv0 := [(0, .ref (X.2.2 0)), (1, .int v1)]) rfl ?_
  intro p e s m args below meth c S
  unfold f_X10_loads at h
  refine gv_aload_n 0 S 0 0 dX10_loads_0 rfl rfl ?_
  refine gv_get 1 S (hF_0_loft X) mf_X10_loads_32 dX10_loads_1 ?_
  refine gv_iload_n 4 S 1 1 dX10_loads_4 rfl rfl ?_
  obtain ⟨r1, hc2, h⟩ := br_some h
  refine gv_cVi 5 S (As := [.int v1]) (rest := []) (c_X1_has l X M v1 r1 hc2) (hO_20 X) rfl (cwV 1 S.1.2.2.2.2 gX10_loads_X1_has rfl rfl rfl (by decide +kernel) ⟨Nat.le_of_ble_eq_true rfl, Nat.le_of_ble_eq_true rfl⟩) rfl rfl (Nat.le_of_ble_eq_true rfl) dX10_loads_5 ?_
  refine gv_if_ne 8 S 13 h dX10_loads_8 (by decide) (fun h => ?_) (fun h => ?_)
  · refine gv_iconst 13 S (0 : Int32) dX10_loads_13 (by decide) ?_
    refine gv_istore_n 14 S 2 (lv' := [(2, .int (0 : Int32)), (0, .ref (X.2.2 0)), (1, .int v1)]) dX10_loads_14 rfl (Nat.le_of_ble_eq_true rfl) rfl ?_
    refine gv_iconst 15 S (0 : Int32) dX10_loads_15 (by decide) ?_
    refine gv_istore_n 16 S 3 (lv' := [(3, .int (0 : Int32)), (2, .int (0 : Int32)), (0, .ref (X.2.2 0)), (1, .int v1)]) dX10_loads_16 rfl (Nat.le_of_ble_eq_true rfl) rfl ?_
    exact gv_sub [2, 3, 1, 0] rfl (t_X10_loads_17 S FU v1 (0 : Int32) (0 : Int32) h)
  · refine gv_iconst 11 S (-1 : Int32) dX10_loads_11 (by decide) ?_
    exact gv_iretR 12 S h dX10_loads_12
theorem mi_X10_weights_10 : ∀ w ∈ u_ws RX10 TX10 12, w ∈ wsX10_weights := by decide +kernel
theorem mf_X10_weights_32 : MF wsX10_weights RX10 32 9 1 := ⟨RX10, TX10, 12, rfl, by decide, mi_X10_weights_10, by decide +kernel⟩
theorem mi_X10_weights_1 : ∀ w ∈ u_ws RX1 TX1 4, w ∈ wsX10_weights := by decide +kernel
theorem mf_X10_weights_121 : MF wsX10_weights RX10 121 1 0 := ⟨RX1, TX1, 4, rfl, by decide, mi_X10_weights_1, by decide +kernel⟩
theorem mf_X10_weights_124 : MF wsX10_weights RX10 124 1 2 := ⟨RX1, TX1, 4, rfl, by decide, mi_X10_weights_1, by decide +kernel⟩
theorem mi_X10_weights_6 : ∀ w ∈ u_ws RX6 TX6 6, w ∈ wsX10_weights := by decide +kernel
theorem mf_X10_weights_128 : MF wsX10_weights RX10 128 6 0 := ⟨RX6, TX6, 6, rfl, by decide, mi_X10_weights_6, by decide +kernel⟩
theorem mf_X10_weights_46 : MF wsX10_weights RX10 46 9 5 := ⟨RX10, TX10, 12, rfl, by decide, mi_X10_weights_10, by decide +kernel⟩
abbrev rm_X10_weights : Room := { frames := 4, cells := 0, slots := 0, locals := 82 }
set_option maxHeartbeats 4000000 in
set_option maxRecDepth 100000 in
theorem t_X10_weights_17 {p : Program} {l : Launch} {e : Env} {s : State} {m : MethodId} {args : Array Value} {below : List Frame} {meth : Method} {c : Code} {X : GE} {M : MM} {r : Int32} (S : CX p s m args meth c cX10_weights 5 wsX10_weights RX10 (some .int) X) : ∀ (n : Nat) (v1 : Int32) (v2 : Int32) (v3 : Int32) (h : g_X10_weights_17 M n v1 v2 v3 = some r), V p l e (headSpec wsX10_weights rm_X10_weights).room s m args below meth c 5 X (MQ below (gQi X r M) args s 0 0 (gA X)) M 17 [(0, .ref (X.2.2 0)), (1, .int v1), (2, .int v2), (3, .int v3)] [] := by
  intro n
  induction n with
  | zero =>
    intro v1 v2 v3 h
    rw [g_X10_weights_17] at h
    cases h
  | succ n ih =>
    intro v1 v2 v3 h
    rw [g_X10_weights_17] at h
    refine gv_iload_n 17 S 3 3 dX10_weights_17 rfl rfl ?_
    refine gv_bipush 18 S (9 : Int32) dX10_weights_18 (by decide) ?_
    refine gv_icmp_gt 20 S 83 h dX10_weights_20 (by decide) (fun h => ?_) (fun h => ?_)
    · refine gv_iload_n 83 S 2 2 dX10_weights_83 rfl rfl ?_
      exact gv_iretR 84 S h dX10_weights_84
    · refine gv_aload_n 23 S 0 0 dX10_weights_23 rfl rfl ?_
      refine gv_get 24 S (hF_0_loft X) mf_X10_weights_32 dX10_weights_24 ?_
      refine gv_get 27 S (hF_20_kind X) mf_X10_weights_121 dX10_weights_27 ?_
      refine gv_iload_n 30 S 1 1 dX10_weights_30 rfl rfl ?_
      refine gv_iald 31 S h (hI_21 X) dX10_weights_31 (fun h => ?_)
      refine gv_aload_n 32 S 0 0 dX10_weights_32 rfl rfl ?_
      refine gv_get 33 S (hF_0_loft X) mf_X10_weights_32 dX10_weights_33 ?_
      refine gv_get 36 S (hF_20_now X) mf_X10_weights_124 dX10_weights_36 ?_
      refine gv_get 39 S (hF_23_load X) mf_X10_weights_128 dX10_weights_39 ?_
      refine gv_iload_n 42 S 1 1 dX10_weights_42 rfl rfl ?_
      refine gv_iald 43 S h (hI_24 X) dX10_weights_43 (fun h => ?_)
      refine gv_iload_n 44 S 3 3 dX10_weights_44 rfl rfl ?_
      obtain ⟨r3, hc4, h⟩ := br_some h
      refine gv_cSi 45 S (As := [.int (M 21 v1.toNatClampNeg), .int (M 24 v1.toNatClampNeg), .int v3]) (rest := []) (c_X10_pullOf l X M (M 21 v1.toNatClampNeg) (M 24 v1.toNatClampNeg) v3 r3 hc4) (va_cwS 3 S.1.2.2.2.2 gX10_weights_X10_pullOf rfl rfl rfl (by decide +kernel) ⟨Nat.le_of_ble_eq_true rfl, Nat.le_of_ble_eq_true rfl⟩) rfl rfl (Nat.le_of_ble_eq_true rfl) dX10_weights_45 ?_
      refine gv_istore 48 S (lv' := [(4, .int r3), (0, .ref (X.2.2 0)), (1, .int v1), (2, .int v2), (3, .int v3)]) dX10_weights_48 (Nat.le_of_ble_eq_true rfl) rfl ?_
      refine gv_iload_n 50 S 2 3 dX10_weights_50 rfl rfl ?_
      refine gv_aload_n 51 S 0 1 dX10_weights_51 rfl rfl ?_
      refine gv_get 52 S (hF_0_readings X) mf_X10_weights_46 dX10_weights_52 ?_
      refine gv_aload_n 55 S 0 1 dX10_weights_55 rfl rfl ?_
      refine gv_get 56 S (hF_0_loft X) mf_X10_weights_32 dX10_weights_56 ?_
      refine gv_iload_n 59 S 1 2 dX10_weights_59 rfl rfl ?_
      refine gv_iload 60 S 0 dX10_weights_60 rfl ?_
      obtain ⟨r5, hc6, h⟩ := br_some h
      refine gv_cVi 62 S (As := [.ref (X.2.2 20), .int v1, .int r3]) (rest := [.int v2]) (c_X5_areSo l X M v1 r3 r5 hc6) (hO_61 X) rfl (cwV 3 S.1.2.2.2.2 gX10_weights_X5_areSo rfl rfl rfl (by decide +kernel) ⟨Nat.le_of_ble_eq_true rfl, Nat.le_of_ble_eq_true rfl⟩) rfl rfl (Nat.le_of_ble_eq_true rfl) dX10_weights_62 ?_
      refine gv_if_eq 65 S 74 h dX10_weights_65 (by decide) (fun h => ?_) (fun h => ?_)
      · refine gv_iconst 74 S (0 : Int32) dX10_weights_74 (by decide) ?_
        refine gv_ior 75 S dX10_weights_75 ?_
        refine gv_nmi h (fun x7 h => ?_)
        refine gv_istore_n 76 S 2 (lv' := [(2, .int x7), (4, .int r3), (0, .ref (X.2.2 0)), (1, .int v1), (3, .int v3)]) dX10_weights_76 rfl (Nat.le_of_ble_eq_true rfl) rfl ?_
        refine gv_iinc 77 S 4 (v3 + (1 : Int32)) (lv' := [(3, .int (v3 + (1 : Int32))), (2, .int x7), (4, .int r3), (0, .ref (X.2.2 0)), (1, .int v1)]) dX10_weights_77 rfl rfl (Nat.le_of_ble_eq_true rfl) rfl ?_
        refine gv_goto 80 S 17 dX10_weights_80 (by decide) ?_
        exact gv_sub [3, 4, 1, 0] rfl (ih v1 x7 (v3 + (1 : Int32)) h)
      · refine gv_iconst 68 S (1 : Int32) dX10_weights_68 (by decide) ?_
        refine gv_iload_n 69 S 3 4 dX10_weights_69 rfl rfl ?_
        refine gv_ishl 70 S dX10_weights_70 ?_
        refine gv_goto 71 S 75 dX10_weights_71 (by decide) ?_
        refine gv_ior 75 S dX10_weights_75 ?_
        refine gv_nmi h (fun x8 h => ?_)
        refine gv_istore_n 76 S 2 (lv' := [(2, .int x8), (4, .int r3), (0, .ref (X.2.2 0)), (1, .int v1), (3, .int v3)]) dX10_weights_76 rfl (Nat.le_of_ble_eq_true rfl) rfl ?_
        refine gv_iinc 77 S 4 (v3 + (1 : Int32)) (lv' := [(3, .int (v3 + (1 : Int32))), (2, .int x8), (4, .int r3), (0, .ref (X.2.2 0)), (1, .int v1)]) dX10_weights_77 rfl rfl (Nat.le_of_ble_eq_true rfl) rfl ?_
        refine gv_goto 80 S 17 dX10_weights_80 (by decide) ?_
        exact gv_sub [3, 4, 1, 0] rfl (ih v1 x8 (v3 + (1 : Int32)) h)
set_option maxHeartbeats 4000000 in
set_option maxRecDepth 100000 in
theorem c_X10_weights (l : Launch) (X : GE) (M : MM) (v1 : Int32) (r : Int32) (h : f_X10_weights M v1 = some r) : CTi l yX10_weights wsX10_weights rm_X10_weights X [.ref (X.2.2 0), .int v1] M r M := by
  refine ct_i (own := RX10) (by decide +kernel) rfl rfl (Nat.le_of_ble_eq_true rfl) (lv0 := [(0, .ref (X.2.2 0)), (1, .int v1)]) rfl ?_
  intro p e s m args below meth c S
  unfold f_X10_weights at h
  refine gv_aload_n 0 S 0 0 dX10_weights_0 rfl rfl ?_
  refine gv_get 1 S (hF_0_loft X) mf_X10_weights_32 dX10_weights_1 ?_
  refine gv_iload_n 4 S 1 1 dX10_weights_4 rfl rfl ?_
  obtain ⟨r1, hc2, h⟩ := br_some h
  refine gv_cVi 5 S (As := [.int v1]) (rest := []) (c_X1_has l X M v1 r1 hc2) (hO_20 X) rfl (cwV 1 S.1.2.2.2.2 gX10_weights_X1_has rfl rfl rfl (by decide +kernel) ⟨Nat.le_of_ble_eq_true rfl, Nat.le_of_ble_eq_true rfl⟩) rfl rfl (Nat.le_of_ble_eq_true rfl) dX10_weights_5 ?_
  refine gv_if_ne 8 S 13 h dX10_weights_8 (by decide) (fun h => ?_) (fun h => ?_)
  · refine gv_iconst 13 S (0 : Int32) dX10_weights_13 (by decide) ?_
    refine gv_istore_n 14 S 2 (lv' := [(2, .int (0 : Int32)), (0, .ref (X.2.2 0)), (1, .int v1)]) dX10_weights_14 rfl (Nat.le_of_ble_eq_true rfl) rfl ?_
    refine gv_iconst 15 S (0 : Int32) dX10_weights_15 (by decide) ?_
    refine gv_istore_n 16 S 3 (lv' := [(3, .int (0 : Int32)), (2, .int (0 : Int32)), (0, .ref (X.2.2 0)), (1, .int v1)]) dX10_weights_16 rfl (Nat.le_of_ble_eq_true rfl) rfl ?_
    exact gv_sub [2, 3, 1, 0] rfl (t_X10_weights_17 S FU v1 (0 : Int32) (0 : Int32) h)
  · refine gv_iconst 11 S (-1 : Int32) dX10_weights_11 (by decide) ?_
    exact gv_iretR 12 S h dX10_weights_12
theorem mi_X10_kinds_10 : ∀ w ∈ u_ws RX10 TX10 12, w ∈ wsX10_kinds := by decide +kernel
theorem mf_X10_kinds_32 : MF wsX10_kinds RX10 32 9 1 := ⟨RX10, TX10, 12, rfl, by decide, mi_X10_kinds_10, by decide +kernel⟩
theorem mi_X10_kinds_1 : ∀ w ∈ u_ws RX1 TX1 4, w ∈ wsX10_kinds := by decide +kernel
theorem mf_X10_kinds_124 : MF wsX10_kinds RX10 124 1 2 := ⟨RX1, TX1, 4, rfl, by decide, mi_X10_kinds_1, by decide +kernel⟩
theorem mi_X10_kinds_6 : ∀ w ∈ u_ws RX6 TX6 6, w ∈ wsX10_kinds := by decide +kernel
theorem mf_X10_kinds_128 : MF wsX10_kinds RX10 128 6 0 := ⟨RX6, TX6, 6, rfl, by decide, mi_X10_kinds_6, by decide +kernel⟩
theorem mf_X10_kinds_131 : MF wsX10_kinds RX10 131 6 1 := ⟨RX6, TX6, 6, rfl, by decide, mi_X10_kinds_6, by decide +kernel⟩
theorem mf_X10_kinds_46 : MF wsX10_kinds RX10 46 9 5 := ⟨RX10, TX10, 12, rfl, by decide, mi_X10_kinds_10, by decide +kernel⟩
abbrev rm_X10_kinds : Room := { frames := 4, cells := 0, slots := 0, locals := 82 }
set_option maxHeartbeats 4000000 in
set_option maxRecDepth 100000 in
theorem t_X10_kinds_17 {p : Program} {l : Launch} {e : Env} {s : State} {m : MethodId} {args : Array Value} {below : List Frame} {meth : Method} {c : Code} {X : GE} {M : MM} {r : Int32} (S : CX p s m args meth c cX10_kinds 5 wsX10_kinds RX10 (some .int) X) : ∀ (n : Nat) (v1 : Int32) (v2 : Int32) (v3 : Int32) (h : g_X10_kinds_17 M n v1 v2 v3 = some r), V p l e (headSpec wsX10_kinds rm_X10_kinds).room s m args below meth c 5 X (MQ below (gQi X r M) args s 0 0 (gA X)) M 17 [(0, .ref (X.2.2 0)), (1, .int v1), (2, .int v2), (3, .int v3)] [] := by
  intro n
  induction n with
  | zero =>
    intro v1 v2 v3 h
    rw [g_X10_kinds_17] at h
    cases h
  | succ n ih =>
    intro v1 v2 v3 h
    rw [g_X10_kinds_17] at h
    refine gv_iload_n 17 S 3 3 dX10_kinds_17 rfl rfl ?_
    refine gv_iconst 18 S (2 : Int32) dX10_kinds_18 (by decide) ?_
    refine gv_icmp_gt 19 S 85 h dX10_kinds_19 (by decide) (fun h => ?_) (fun h => ?_)
    · refine gv_iload_n 85 S 2 2 dX10_kinds_85 rfl rfl ?_
      exact gv_iretR 86 S h dX10_kinds_86
    · refine gv_iload_n 22 S 3 3 dX10_kinds_22 rfl rfl ?_
      refine gv_aload_n 23 S 0 0 dX10_kinds_23 rfl rfl ?_
      refine gv_get 24 S (hF_0_loft X) mf_X10_kinds_32 dX10_kinds_24 ?_
      refine gv_get 27 S (hF_20_now X) mf_X10_kinds_124 dX10_kinds_27 ?_
      refine gv_get 30 S (hF_23_load X) mf_X10_kinds_128 dX10_kinds_30 ?_
      refine gv_iload_n 33 S 1 1 dX10_kinds_33 rfl rfl ?_
      refine gv_iald 34 S h (hI_24 X) dX10_kinds_34 (fun h => ?_)
      refine gv_aload_n 35 S 0 0 dX10_kinds_35 rfl rfl ?_
      refine gv_get 36 S (hF_0_loft X) mf_X10_kinds_32 dX10_kinds_36 ?_
      refine gv_get 39 S (hF_20_now X) mf_X10_kinds_124 dX10_kinds_39 ?_
      refine gv_get 42 S (hF_23_bricks X) mf_X10_kinds_131 dX10_kinds_42 ?_
      refine gv_iload_n 45 S 1 1 dX10_kinds_45 rfl rfl ?_
      refine gv_iald 46 S h (hI_25 X) dX10_kinds_46 (fun h => ?_)
      obtain ⟨r3, hc4, h⟩ := br_some h
      refine gv_cSi 47 S (As := [.int v3, .int (M 24 v1.toNatClampNeg), .int (M 25 v1.toNatClampNeg)]) (rest := []) (c_X10_pullOf l X M v3 (M 24 v1.toNatClampNeg) (M 25 v1.toNatClampNeg) r3 hc4) (va_cwS 3 S.1.2.2.2.2 gX10_kinds_X10_pullOf rfl rfl rfl (by decide +kernel) ⟨Nat.le_of_ble_eq_true rfl, Nat.le_of_ble_eq_true rfl⟩) rfl rfl (Nat.le_of_ble_eq_true rfl) dX10_kinds_47 ?_
      refine gv_istore 50 S (lv' := [(4, .int r3), (0, .ref (X.2.2 0)), (1, .int v1), (2, .int v2), (3, .int v3)]) dX10_kinds_50 (Nat.le_of_ble_eq_true rfl) rfl ?_
      refine gv_iload_n 52 S 2 3 dX10_kinds_52 rfl rfl ?_
      refine gv_aload_n 53 S 0 1 dX10_kinds_53 rfl rfl ?_
      refine gv_get 54 S (hF_0_readings X) mf_X10_kinds_46 dX10_kinds_54 ?_
      refine gv_aload_n 57 S 0 1 dX10_kinds_57 rfl rfl ?_
      refine gv_get 58 S (hF_0_loft X) mf_X10_kinds_32 dX10_kinds_58 ?_
      refine gv_iload_n 61 S 1 2 dX10_kinds_61 rfl rfl ?_
      refine gv_iload 62 S 0 dX10_kinds_62 rfl ?_
      obtain ⟨r5, hc6, h⟩ := br_some h
      refine gv_cVi 64 S (As := [.ref (X.2.2 20), .int v1, .int r3]) (rest := [.int v2]) (c_X5_areSo l X M v1 r3 r5 hc6) (hO_61 X) rfl (cwV 3 S.1.2.2.2.2 gX10_kinds_X5_areSo rfl rfl rfl (by decide +kernel) ⟨Nat.le_of_ble_eq_true rfl, Nat.le_of_ble_eq_true rfl⟩) rfl rfl (Nat.le_of_ble_eq_true rfl) dX10_kinds_64 ?_
      refine gv_if_eq 67 S 76 h dX10_kinds_67 (by decide) (fun h => ?_) (fun h => ?_)
      · refine gv_iconst 76 S (0 : Int32) dX10_kinds_76 (by decide) ?_
        refine gv_ior 77 S dX10_kinds_77 ?_
        refine gv_nmi h (fun x7 h => ?_)
        refine gv_istore_n 78 S 2 (lv' := [(2, .int x7), (4, .int r3), (0, .ref (X.2.2 0)), (1, .int v1), (3, .int v3)]) dX10_kinds_78 rfl (Nat.le_of_ble_eq_true rfl) rfl ?_
        refine gv_iinc 79 S 4 (v3 + (1 : Int32)) (lv' := [(3, .int (v3 + (1 : Int32))), (2, .int x7), (4, .int r3), (0, .ref (X.2.2 0)), (1, .int v1)]) dX10_kinds_79 rfl rfl (Nat.le_of_ble_eq_true rfl) rfl ?_
        refine gv_goto 82 S 17 dX10_kinds_82 (by decide) ?_
        exact gv_sub [3, 4, 1, 0] rfl (ih v1 x7 (v3 + (1 : Int32)) h)
      · refine gv_iconst 70 S (1 : Int32) dX10_kinds_70 (by decide) ?_
        refine gv_iload_n 71 S 3 4 dX10_kinds_71 rfl rfl ?_
        refine gv_ishl 72 S dX10_kinds_72 ?_
        refine gv_goto 73 S 77 dX10_kinds_73 (by decide) ?_
        refine gv_ior 77 S dX10_kinds_77 ?_
        refine gv_nmi h (fun x8 h => ?_)
        refine gv_istore_n 78 S 2 (lv' := [(2, .int x8), (4, .int r3), (0, .ref (X.2.2 0)), (1, .int v1), (3, .int v3)]) dX10_kinds_78 rfl (Nat.le_of_ble_eq_true rfl) rfl ?_
        refine gv_iinc 79 S 4 (v3 + (1 : Int32)) (lv' := [(3, .int (v3 + (1 : Int32))), (2, .int x8), (4, .int r3), (0, .ref (X.2.2 0)), (1, .int v1)]) dX10_kinds_79 rfl rfl (Nat.le_of_ble_eq_true rfl) rfl ?_
        refine gv_goto 82 S 17 dX10_kinds_82 (by decide) ?_
        exact gv_sub [3, 4, 1, 0] rfl (ih v1 x8 (v3 + (1 : Int32)) h)
set_option maxHeartbeats 4000000 in
set_option maxRecDepth 100000 in
theorem c_X10_kinds (l : Launch) (X : GE) (M : MM) (v1 : Int32) (r : Int32) (h : f_X10_kinds M v1 = some r) : CTi l yX10_kinds wsX10_kinds rm_X10_kinds X [.ref (X.2.2 0), .int v1] M r M := by
  refine ct_i (own := RX10) (by decide +kernel) rfl rfl (Nat.le_of_ble_eq_true rfl) (lv0 := [(0, .ref (X.2.2 0)), (1, .int v1)]) rfl ?_
  intro p e s m args below meth c S
  unfold f_X10_kinds at h
  refine gv_aload_n 0 S 0 0 dX10_kinds_0 rfl rfl ?_
  refine gv_get 1 S (hF_0_loft X) mf_X10_kinds_32 dX10_kinds_1 ?_
  refine gv_iload_n 4 S 1 1 dX10_kinds_4 rfl rfl ?_
  obtain ⟨r1, hc2, h⟩ := br_some h
  refine gv_cVi 5 S (As := [.int v1]) (rest := []) (c_X1_has l X M v1 r1 hc2) (hO_20 X) rfl (cwV 1 S.1.2.2.2.2 gX10_kinds_X1_has rfl rfl rfl (by decide +kernel) ⟨Nat.le_of_ble_eq_true rfl, Nat.le_of_ble_eq_true rfl⟩) rfl rfl (Nat.le_of_ble_eq_true rfl) dX10_kinds_5 ?_
  refine gv_if_ne 8 S 13 h dX10_kinds_8 (by decide) (fun h => ?_) (fun h => ?_)
  · refine gv_iconst 13 S (0 : Int32) dX10_kinds_13 (by decide) ?_
    refine gv_istore_n 14 S 2 (lv' := [(2, .int (0 : Int32)), (0, .ref (X.2.2 0)), (1, .int v1)]) dX10_kinds_14 rfl (Nat.le_of_ble_eq_true rfl) rfl ?_
    refine gv_iconst 15 S (0 : Int32) dX10_kinds_15 (by decide) ?_
    refine gv_istore_n 16 S 3 (lv' := [(3, .int (0 : Int32)), (2, .int (0 : Int32)), (0, .ref (X.2.2 0)), (1, .int v1)]) dX10_kinds_16 rfl (Nat.le_of_ble_eq_true rfl) rfl ?_
    exact gv_sub [2, 3, 1, 0] rfl (t_X10_kinds_17 S FU v1 (0 : Int32) (0 : Int32) h)
  · refine gv_iconst 11 S (-1 : Int32) dX10_kinds_11 (by decide) ?_
    exact gv_iretR 12 S h dX10_kinds_12
theorem mi_X10_odds_10 : ∀ w ∈ u_ws RX10 TX10 12, w ∈ wsX10_odds := by decide +kernel
theorem mf_X10_odds_32 : MF wsX10_odds RX10 32 9 1 := ⟨RX10, TX10, 12, rfl, by decide, mi_X10_odds_10, by decide +kernel⟩
abbrev rm_X10_odds : Room := { frames := 3, cells := 0, slots := 0, locals := 58 }
set_option maxHeartbeats 4000000 in
set_option maxRecDepth 100000 in
theorem c_X10_odds (l : Launch) (X : GE) (M : MM) (v1 : Int32) (v2 : Int32) (r : Int64) (h : f_X10_odds M v1 v2 = some r) : CTl l yX10_odds wsX10_odds rm_X10_odds X [.ref (X.2.2 0), .int v1, .int v2] M r M := by
  refine ct_l (own := RX10) (by decide +kernel) rfl rfl (Nat.le_of_ble_eq_true rfl) (lv0 := [(0, .ref (X.2.2 0)), (1, .int v1), (2, .int v2)]) rfl ?_
  intro p e s m args below meth c S
  unfold f_X10_odds at h
  refine gv_aload_n 0 S 0 0 dX10_odds_0 rfl rfl ?_
  refine gv_get 1 S (hF_0_loft X) mf_X10_odds_32 dX10_odds_1 ?_
  refine gv_iload_n 4 S 1 1 dX10_odds_4 rfl rfl ?_
  obtain ⟨r1, hc2, h⟩ := br_some h
  refine gv_cVi 5 S (As := [.int v1]) (rest := []) (c_X1_has l X M v1 r1 hc2) (hO_20 X) rfl (cwV 1 S.1.2.2.2.2 gX10_odds_X1_has rfl rfl rfl (by decide +kernel) ⟨Nat.le_of_ble_eq_true rfl, Nat.le_of_ble_eq_true rfl⟩) rfl rfl (Nat.le_of_ble_eq_true rfl) dX10_odds_5 ?_
  refine gv_if_eq 8 S 20 h dX10_odds_8 (by decide) (fun h => ?_) (fun h => ?_)
  · refine gv_ldc2 20 S (v := (-9223372036854775808 : Int64)) (by decide +kernel) dX10_odds_20 ?_
    exact gv_lretR 23 S h dX10_odds_23
  · refine gv_iload_n 11 S 2 2 dX10_odds_11 rfl rfl ?_
    refine gv_iconst 12 S (0 : Int32) dX10_odds_12 (by decide) ?_
    refine gv_iconst 13 S (1 : Int32) dX10_odds_13 (by decide) ?_
    obtain ⟨r3, hc4, h⟩ := br_some h
    refine gv_cSi 14 S (As := [.int v2, .int (0 : Int32), .int (1 : Int32)]) (rest := []) (c_X10_within l X M v2 (0 : Int32) (1 : Int32) r3 hc4) (va_cwS 3 S.1.2.2.2.2 gX10_odds_X10_within rfl rfl rfl (by decide +kernel) ⟨Nat.le_of_ble_eq_true rfl, Nat.le_of_ble_eq_true rfl⟩) rfl rfl (Nat.le_of_ble_eq_true rfl) dX10_odds_14 ?_
    refine gv_if_ne 17 S 24 h dX10_odds_17 (by decide) (fun h => ?_) (fun h => ?_)
    · refine gv_aload_n 24 S 0 0 dX10_odds_24 rfl rfl ?_
      refine gv_get 25 S (hF_0_loft X) mf_X10_odds_32 dX10_odds_25 ?_
      refine gv_iload_n 28 S 1 1 dX10_odds_28 rfl rfl ?_
      obtain ⟨r5, hc6, h⟩ := br_some h
      refine gv_cVi 29 S (As := [.int v1]) (rest := []) (c_X1_isSeenAmongUp l X M v1 r5 hc6) (hO_20 X) rfl (cwV 1 S.1.2.2.2.2 gX10_odds_X1_isSeenAmongUp rfl rfl rfl (by decide +kernel) ⟨Nat.le_of_ble_eq_true rfl, Nat.le_of_ble_eq_true rfl⟩) rfl rfl (Nat.le_of_ble_eq_true rfl) dX10_odds_29 ?_
      refine gv_istore_n 32 S 3 (lv' := [(3, .int r5), (0, .ref (X.2.2 0)), (1, .int v1), (2, .int v2)]) dX10_odds_32 rfl (Nat.le_of_ble_eq_true rfl) rfl ?_
      refine gv_iload_n 33 S 2 3 dX10_odds_33 rfl rfl ?_
      refine gv_if_ne 34 S 39 h dX10_odds_34 (by decide) (fun h => ?_) (fun h => ?_)
      · refine gv_iload_n 39 S 3 0 dX10_odds_39 rfl rfl ?_
        refine gv_if_eq 40 S 49 h dX10_odds_40 (by decide) (fun h => ?_) (fun h => ?_)
        · refine gv_lconst 49 S (1 : Int64) dX10_odds_49 (by decide) ?_
          refine gv_iload_n 50 S 1 2 dX10_odds_50 rfl rfl ?_
          refine gv_iconst 51 S (1 : Int32) dX10_odds_51 (by decide) ?_
          refine gv_iadd 52 S dX10_odds_52 ?_
          refine gv_lshl 53 S dX10_odds_53 ?_
          exact gv_lretR 54 S h dX10_odds_54
        · refine gv_lconst 43 S (1 : Int64) dX10_odds_43 (by decide) ?_
          refine gv_iload_n 44 S 1 2 dX10_odds_44 rfl rfl ?_
          refine gv_lshl 45 S dX10_odds_45 ?_
          refine gv_goto 46 S 54 dX10_odds_46 (by decide) ?_
          exact gv_lretR 54 S h dX10_odds_54
      · refine gv_lconst 37 S (1 : Int64) dX10_odds_37 (by decide) ?_
        exact gv_lretR 38 S h dX10_odds_38
    · refine gv_ldc2 20 S (v := (-9223372036854775808 : Int64)) (by decide +kernel) dX10_odds_20 ?_
      exact gv_lretR 23 S h dX10_odds_23
theorem mi_X10_sheet_10 : ∀ w ∈ u_ws RX10 TX10 12, w ∈ wsX10_sheet := by decide +kernel
theorem mp_X10_sheet_78 : MP wsX10_sheet RX10 78 9 11 .int := ⟨RX10, TX10, 12, tyX10, rfl, by decide, mi_X10_sheet_10, by decide +kernel, tyX10_ok, nmX10, rfl, by decide +kernel⟩
theorem mf_X10_sheet_13 : MF wsX10_sheet RX10 13 9 0 := ⟨RX10, TX10, 12, rfl, by decide, mi_X10_sheet_10, by decide +kernel⟩
abbrev rm_X10_sheet : Room := { frames := 2, cells := 0, slots := 0, locals := 42 }
set_option maxHeartbeats 4000000 in
set_option maxRecDepth 100000 in
theorem c_X10_sheet (l : Launch) (X : GE) (M : MM) (v1 : Int32) (v2 : Int32) (v3 : Int32) (r : Int32) (M' : MM) (h : f_X10_sheet M v1 v2 v3 = some (r, M')) : CTi l yX10_sheet wsX10_sheet rm_X10_sheet X [.ref (X.2.2 0), .int v1, .int v2, .int v3] M r M' := by
  refine ct_i (own := RX10) (by decide +kernel) rfl rfl (Nat.le_of_ble_eq_true rfl) (lv0 := [(0, .ref (X.2.2 0)), (1, .int v1), (2, .int v2), (3, .int v3)]) rfl ?_
  intro p e s m args below meth c S
  unfold f_X10_sheet at h
  refine gv_aload_n 0 S 0 0 dX10_sheet_0 rfl rfl ?_
  refine gv_iconst 1 S (0 : Int32) dX10_sheet_1 (by decide) ?_
  refine gv_put 2 S h (hP_0_lastFault X) mp_X10_sheet_78 rfl rfl dX10_sheet_2 (fun M1 h => ?_)
  refine gv_iload_n 5 S 1 1 dX10_sheet_5 rfl rfl ?_
  obtain ⟨r2, hc3, h⟩ := br_some h
  refine gv_cSi 6 S (As := [.int v1]) (rest := []) (c_X10_isSheet l X M1 v1 r2 hc3) (va_cwS 1 S.1.2.2.2.2 gX10_sheet_X10_isSheet rfl rfl rfl (by decide +kernel) ⟨Nat.le_of_ble_eq_true rfl, Nat.le_of_ble_eq_true rfl⟩) rfl rfl (Nat.le_of_ble_eq_true rfl) dX10_sheet_6 ?_
  refine gv_if_ne 9 S 14 h dX10_sheet_9 (by decide) (fun h => ?_) (fun h => ?_)
  · refine gv_iload_n 14 S 2 2 dX10_sheet_14 rfl rfl ?_
    obtain ⟨r4, hc5, h⟩ := br_some h
    refine gv_cSi 15 S (As := [.int v2]) (rest := []) (c_X10_isLane l X M1 v2 r4 hc5) (va_cwS 1 S.1.2.2.2.2 gX10_sheet_X10_isLane rfl rfl rfl (by decide +kernel) ⟨Nat.le_of_ble_eq_true rfl, Nat.le_of_ble_eq_true rfl⟩) rfl rfl (Nat.le_of_ble_eq_true rfl) dX10_sheet_15 ?_
    refine gv_if_eq 18 S 27 h dX10_sheet_18 (by decide) (fun h => ?_) (fun h => ?_)
    · refine gv_bipush 27 S (-2 : Int32) dX10_sheet_27 (by decide) ?_
      exact gv_iret 29 S h dX10_sheet_29
    · refine gv_iload_n 21 S 3 3 dX10_sheet_21 rfl rfl ?_
      refine gv_bipush 22 S (60 : Int32) dX10_sheet_22 (by decide) ?_
      refine gv_icmp_le 24 S 30 h dX10_sheet_24 (by decide) (fun h => ?_) (fun h => ?_)
      · refine gv_iload_n 30 S 3 3 dX10_sheet_30 rfl rfl ?_
        refine gv_if_ge 31 S 40 h dX10_sheet_31 (by decide) (fun h => ?_) (fun h => ?_)
        · refine gv_aload_n 40 S 0 0 dX10_sheet_40 rfl rfl ?_
          refine gv_get 41 S (hF_0_sheets X) mf_X10_sheet_13 dX10_sheet_41 ?_
          refine gv_iload_n 44 S 1 1 dX10_sheet_44 rfl rfl ?_
          refine gv_aald 45 S h (hR_1 X) rfl dX10_sheet_45 (fun hq6 h => ?_)
          refine gv_iload_n 46 S 2 2 dX10_sheet_46 rfl rfl ?_
          refine gv_iload_n 47 S 3 3 dX10_sheet_47 rfl rfl ?_
          obtain ⟨M8, hc9, h⟩ := br_some h
          refine gv_cVv 48 S (As := [.int v2, .int v3]) (rest := []) (c_X7_renew l X M1 (2 + 2 * v1.toNatClampNeg) v2 v3 (isSh_at hq6) M8 hc9) (hO_Sh (isSh_at hq6)) rfl (cwV 2 S.1.2.2.2.2 gX10_sheet_X7_renew rfl rfl rfl (by decide +kernel) ⟨Nat.le_of_ble_eq_true rfl, Nat.le_of_ble_eq_true rfl⟩) rfl rfl (Nat.le_of_ble_eq_true rfl) dX10_sheet_48 ?_
          refine gv_iconst 51 S (1 : Int32) dX10_sheet_51 (by decide) ?_
          exact gv_iret 52 S h dX10_sheet_52
        · refine gv_aload_n 34 S 0 0 dX10_sheet_34 rfl rfl ?_
          refine gv_iconst 35 S (4 : Int32) dX10_sheet_35 (by decide) ?_
          obtain ⟨r10, M11, hc12, h⟩ := bi_some h
          refine gv_cVi 36 S (As := [.int (4 : Int32)]) (rest := []) (c_X10_faulted l X M1 (4 : Int32) r10 M11 hc12) (hO_0 X) rfl (cwV 1 S.1.2.2.2.2 gX10_sheet_X10_faulted rfl rfl rfl (by decide +kernel) ⟨Nat.le_of_ble_eq_true rfl, Nat.le_of_ble_eq_true rfl⟩) rfl rfl (Nat.le_of_ble_eq_true rfl) dX10_sheet_36 ?_
          exact gv_iret 39 S h dX10_sheet_39
      · refine gv_bipush 27 S (-2 : Int32) dX10_sheet_27 (by decide) ?_
        exact gv_iret 29 S h dX10_sheet_29
  · refine gv_iconst 12 S (-1 : Int32) dX10_sheet_12 (by decide) ?_
    exact gv_iret 13 S h dX10_sheet_13
theorem mi_X10_lose_10 : ∀ w ∈ u_ws RX10 TX10 12, w ∈ wsX10_lose := by decide +kernel
theorem mf_X10_lose_13 : MF wsX10_lose RX10 13 9 0 := ⟨RX10, TX10, 12, rfl, by decide, mi_X10_lose_10, by decide +kernel⟩
theorem mi_X10_lose_7 : ∀ w ∈ u_ws RX7 TX7 4, w ∈ wsX10_lose := by decide +kernel
theorem mf_X10_lose_264 : MF wsX10_lose RX10 264 7 1 := ⟨RX7, TX7, 4, rfl, by decide, mi_X10_lose_7, by decide +kernel⟩
theorem mp_X10_lose_264 : MP wsX10_lose RX10 264 7 1 .boolean := ⟨RX7, TX7, 4, tyX7, rfl, by decide, mi_X10_lose_7, by decide +kernel, tyX7_ok, nmX7, rfl, by decide +kernel⟩
abbrev rm_X10_lose : Room := { frames := 2, cells := 0, slots := 0, locals := 42 }
set_option maxHeartbeats 4000000 in
set_option maxRecDepth 100000 in
theorem c_X10_lose (l : Launch) (X : GE) (M : MM) (v1 : Int32) (r : Int32) (M' : MM) (h : f_X10_lose M v1 = some (r, M')) : CTi l yX10_lose wsX10_lose rm_X10_lose X [.ref (X.2.2 0), .int v1] M r M' := by
  refine ct_i (own := RX10) (by decide +kernel) rfl rfl (Nat.le_of_ble_eq_true rfl) (lv0 := [(0, .ref (X.2.2 0)), (1, .int v1)]) rfl ?_
  intro p e s m args below meth c S
  unfold f_X10_lose at h
  refine gv_iload_n 0 S 1 1 dX10_lose_0 rfl rfl ?_
  obtain ⟨r1, hc2, h⟩ := br_some h
  refine gv_cSi 1 S (As := [.int v1]) (rest := []) (c_X10_isSheet l X M v1 r1 hc2) (va_cwS 1 S.1.2.2.2.2 gX10_lose_X10_isSheet rfl rfl rfl (by decide +kernel) ⟨Nat.le_of_ble_eq_true rfl, Nat.le_of_ble_eq_true rfl⟩) rfl rfl (Nat.le_of_ble_eq_true rfl) dX10_lose_1 ?_
  refine gv_if_ne 4 S 9 h dX10_lose_4 (by decide) (fun h => ?_) (fun h => ?_)
  · refine gv_aload_n 9 S 0 0 dX10_lose_9 rfl rfl ?_
    refine gv_get 10 S (hF_0_sheets X) mf_X10_lose_13 dX10_lose_10 ?_
    refine gv_iload_n 13 S 1 1 dX10_lose_13 rfl rfl ?_
    refine gv_aald 14 S h (hR_1 X) rfl dX10_lose_14 (fun hq3 h => ?_)
    refine gv_get 15 S (hF_Sh_hasRow (isSh_at hq3)) mf_X10_lose_264 dX10_lose_15 ?_
    refine gv_nmi h (fun x4 h => ?_)
    refine gv_istore_n 18 S 2 (lv' := [(2, .int x4), (0, .ref (X.2.2 0)), (1, .int v1)]) dX10_lose_18 rfl (Nat.le_of_ble_eq_true rfl) rfl ?_
    refine gv_aload_n 19 S 0 1 dX10_lose_19 rfl rfl ?_
    refine gv_get 20 S (hF_0_sheets X) mf_X10_lose_13 dX10_lose_20 ?_
    refine gv_iload_n 23 S 1 2 dX10_lose_23 rfl rfl ?_
    refine gv_aald 24 S h (hR_1 X) rfl dX10_lose_24 (fun hq5 h => ?_)
    refine gv_iconst 25 S (0 : Int32) dX10_lose_25 (by decide) ?_
    refine gv_put 26 S h (hP_Sh_hasRow (isSh_at hq5)) mp_X10_lose_264 rfl rfl dX10_lose_26 (fun M6 h => ?_)
    refine gv_iload_n 29 S 2 0 dX10_lose_29 rfl rfl ?_
    refine gv_if_eq 30 S 37 h dX10_lose_30 (by decide) (fun h => ?_) (fun h => ?_)
    · refine gv_iconst 37 S (0 : Int32) dX10_lose_37 (by decide) ?_
      exact gv_iret 38 S h dX10_lose_38
    · refine gv_iconst 33 S (1 : Int32) dX10_lose_33 (by decide) ?_
      refine gv_goto 34 S 38 dX10_lose_34 (by decide) ?_
      exact gv_iret 38 S h dX10_lose_38
  · refine gv_iconst 7 S (-1 : Int32) dX10_lose_7 (by decide) ?_
    exact gv_iret 8 S h dX10_lose_8
theorem mi_X10_put_10 : ∀ w ∈ u_ws RX10 TX10 12, w ∈ wsX10_put := by decide +kernel
theorem mp_X10_put_78 : MP wsX10_put RX10 78 9 11 .int := ⟨RX10, TX10, 12, tyX10, rfl, by decide, mi_X10_put_10, by decide +kernel, tyX10_ok, nmX10, rfl, by decide +kernel⟩
theorem mf_X10_put_13 : MF wsX10_put RX10 13 9 0 := ⟨RX10, TX10, 12, rfl, by decide, mi_X10_put_10, by decide +kernel⟩
theorem mi_X10_put_7 : ∀ w ∈ u_ws RX7 TX7 4, w ∈ wsX10_put := by decide +kernel
theorem mf_X10_put_268 : MF wsX10_put RX10 268 7 2 := ⟨RX7, TX7, 4, rfl, by decide, mi_X10_put_7, by decide +kernel⟩
abbrev rm_X10_put : Room := { frames := 2, cells := 0, slots := 0, locals := 45 }
set_option maxHeartbeats 4000000 in
set_option maxRecDepth 100000 in
theorem c_X10_put (l : Launch) (X : GE) (M : MM) (v1 : Int32) (v2 : Int32) (v3 : Int32) (r : Int32) (M' : MM) (h : f_X10_put M v1 v2 v3 = some (r, M')) : CTi l yX10_put wsX10_put rm_X10_put X [.ref (X.2.2 0), .int v1, .int v2, .int v3] M r M' := by
  refine ct_i (own := RX10) (by decide +kernel) rfl rfl (Nat.le_of_ble_eq_true rfl) (lv0 := [(0, .ref (X.2.2 0)), (1, .int v1), (2, .int v2), (3, .int v3)]) rfl ?_
  intro p e s m args below meth c S
  unfold f_X10_put at h
  refine gv_aload_n 0 S 0 0 dX10_put_0 rfl rfl ?_
  refine gv_iconst 1 S (0 : Int32) dX10_put_1 (by decide) ?_
  refine gv_put 2 S h (hP_0_lastFault X) mp_X10_put_78 rfl rfl dX10_put_2 (fun M1 h => ?_)
  refine gv_iload_n 5 S 1 1 dX10_put_5 rfl rfl ?_
  obtain ⟨r2, hc3, h⟩ := br_some h
  refine gv_cSi 6 S (As := [.int v1]) (rest := []) (c_X10_isSheet l X M1 v1 r2 hc3) (va_cwS 1 S.1.2.2.2.2 gX10_put_X10_isSheet rfl rfl rfl (by decide +kernel) ⟨Nat.le_of_ble_eq_true rfl, Nat.le_of_ble_eq_true rfl⟩) rfl rfl (Nat.le_of_ble_eq_true rfl) dX10_put_6 ?_
  refine gv_if_ne 9 S 14 h dX10_put_9 (by decide) (fun h => ?_) (fun h => ?_)
  · refine gv_aload_n 14 S 0 0 dX10_put_14 rfl rfl ?_
    refine gv_get 15 S (hF_0_sheets X) mf_X10_put_13 dX10_put_15 ?_
    refine gv_iload_n 18 S 1 1 dX10_put_18 rfl rfl ?_
    refine gv_aald 19 S h (hR_1 X) rfl dX10_put_19 (fun hq4 h => ?_)
    refine gv_aload_n 20 S 0 0 dX10_put_20 rfl rfl ?_
    refine gv_get 21 S (hF_0_sheets X) mf_X10_put_13 dX10_put_21 ?_
    refine gv_iload_n 24 S 1 1 dX10_put_24 rfl rfl ?_
    refine gv_aald 25 S h (hR_1 X) rfl dX10_put_25 (fun hq5 h => ?_)
    refine gv_get 26 S (hF_Sh_lane (isSh_at hq5)) mf_X10_put_268 dX10_put_26 ?_
    refine gv_iload_n 29 S 2 2 dX10_put_29 rfl rfl ?_
    refine gv_iconst 30 S (1 : Int32) dX10_put_30 (by decide) ?_
    obtain ⟨r6, hc7, h⟩ := br_some h
    refine gv_cVi 31 S (As := [.int (M1 (2 + 2 * v1.toNatClampNeg) 2), .int v2, .int (1 : Int32)]) (rest := []) (c_X7_faultOf l X M1 (2 + 2 * v1.toNatClampNeg) (M1 (2 + 2 * v1.toNatClampNeg) 2) v2 (1 : Int32) (isSh_at hq4) r6 hc7) (hO_Sh (isSh_at hq4)) rfl (cwV 3 S.1.2.2.2.2 gX10_put_X7_faultOf rfl rfl rfl (by decide +kernel) ⟨Nat.le_of_ble_eq_true rfl, Nat.le_of_ble_eq_true rfl⟩) rfl rfl (Nat.le_of_ble_eq_true rfl) dX10_put_31 ?_
    refine gv_istore 34 S (lv' := [(4, .int r6), (0, .ref (X.2.2 0)), (1, .int v1), (2, .int v2), (3, .int v3)]) dX10_put_34 (Nat.le_of_ble_eq_true rfl) rfl ?_
    refine gv_iload 36 S 0 dX10_put_36 rfl ?_
    refine gv_if_eq 38 S 48 h dX10_put_38 (by decide) (fun h => ?_) (fun h => ?_)
    · refine gv_aload_n 48 S 0 1 dX10_put_48 rfl rfl ?_
      refine gv_get 49 S (hF_0_sheets X) mf_X10_put_13 dX10_put_49 ?_
      refine gv_iload_n 52 S 1 2 dX10_put_52 rfl rfl ?_
      refine gv_aald 53 S h (hR_1 X) rfl dX10_put_53 (fun hq8 h => ?_)
      refine gv_iload_n 54 S 2 3 dX10_put_54 rfl rfl ?_
      refine gv_iload_n 55 S 3 4 dX10_put_55 rfl rfl ?_
      obtain ⟨M10, hc11, h⟩ := br_some h
      refine gv_cVv 56 S (As := [.int v2, .int v3]) (rest := []) (c_X7_set l X M1 (2 + 2 * v1.toNatClampNeg) v2 v3 (isSh_at hq8) M10 hc11) (hO_Sh (isSh_at hq8)) rfl (cwV 2 S.1.2.2.2.2 gX10_put_X7_set rfl rfl rfl (by decide +kernel) ⟨Nat.le_of_ble_eq_true rfl, Nat.le_of_ble_eq_true rfl⟩) rfl rfl (Nat.le_of_ble_eq_true rfl) dX10_put_56 ?_
      refine gv_iconst 59 S (1 : Int32) dX10_put_59 (by decide) ?_
      exact gv_iret 60 S h dX10_put_60
    · refine gv_aload_n 41 S 0 1 dX10_put_41 rfl rfl ?_
      refine gv_iload 42 S 0 dX10_put_42 rfl ?_
      obtain ⟨r12, M13, hc14, h⟩ := bi_some h
      refine gv_cVi 44 S (As := [.int r6]) (rest := []) (c_X10_faulted l X M1 r6 r12 M13 hc14) (hO_0 X) rfl (cwV 1 S.1.2.2.2.2 gX10_put_X10_faulted rfl rfl rfl (by decide +kernel) ⟨Nat.le_of_ble_eq_true rfl, Nat.le_of_ble_eq_true rfl⟩) rfl rfl (Nat.le_of_ble_eq_true rfl) dX10_put_44 ?_
      exact gv_iret 47 S h dX10_put_47
  · refine gv_iconst 12 S (-1 : Int32) dX10_put_12 (by decide) ?_
    exact gv_iret 13 S h dX10_put_13
theorem mi_X10_cell_10 : ∀ w ∈ u_ws RX10 TX10 12, w ∈ wsX10_cell := by decide +kernel
theorem mp_X10_cell_78 : MP wsX10_cell RX10 78 9 11 .int := ⟨RX10, TX10, 12, tyX10, rfl, by decide, mi_X10_cell_10, by decide +kernel, tyX10_ok, nmX10, rfl, by decide +kernel⟩
theorem mf_X10_cell_13 : MF wsX10_cell RX10 13 9 0 := ⟨RX10, TX10, 12, rfl, by decide, mi_X10_cell_10, by decide +kernel⟩
theorem mi_X10_cell_7 : ∀ w ∈ u_ws RX7 TX7 4, w ∈ wsX10_cell := by decide +kernel
theorem mf_X10_cell_97 : MF wsX10_cell RX10 97 7 0 := ⟨RX7, TX7, 4, rfl, by decide, mi_X10_cell_7, by decide +kernel⟩
abbrev rm_X10_cell : Room := { frames := 2, cells := 0, slots := 0, locals := 45 }
set_option maxHeartbeats 4000000 in
set_option maxRecDepth 100000 in
theorem c_X10_cell (l : Launch) (X : GE) (M : MM) (v1 : Int32) (v2 : Int32) (v3 : Int32) (r : Int64) (M' : MM) (h : f_X10_cell M v1 v2 v3 = some (r, M')) : CTl l yX10_cell wsX10_cell rm_X10_cell X [.ref (X.2.2 0), .int v1, .int v2, .int v3] M r M' := by
  refine ct_l (own := RX10) (by decide +kernel) rfl rfl (Nat.le_of_ble_eq_true rfl) (lv0 := [(0, .ref (X.2.2 0)), (1, .int v1), (2, .int v2), (3, .int v3)]) rfl ?_
  intro p e s m args below meth c S
  unfold f_X10_cell at h
  refine gv_aload_n 0 S 0 0 dX10_cell_0 rfl rfl ?_
  refine gv_iconst 1 S (0 : Int32) dX10_cell_1 (by decide) ?_
  refine gv_put 2 S h (hP_0_lastFault X) mp_X10_cell_78 rfl rfl dX10_cell_2 (fun M1 h => ?_)
  refine gv_iload_n 5 S 1 1 dX10_cell_5 rfl rfl ?_
  obtain ⟨r2, hc3, h⟩ := br_some h
  refine gv_cSi 6 S (As := [.int v1]) (rest := []) (c_X10_isSheet l X M1 v1 r2 hc3) (va_cwS 1 S.1.2.2.2.2 gX10_cell_X10_isSheet rfl rfl rfl (by decide +kernel) ⟨Nat.le_of_ble_eq_true rfl, Nat.le_of_ble_eq_true rfl⟩) rfl rfl (Nat.le_of_ble_eq_true rfl) dX10_cell_6 ?_
  refine gv_if_eq 9 S 19 h dX10_cell_9 (by decide) (fun h => ?_) (fun h => ?_)
  · refine gv_ldc2 19 S (v := (-9223372036854775808 : Int64)) (by decide +kernel) dX10_cell_19 ?_
    exact gv_lret 22 S h dX10_cell_22
  · refine gv_iload_n 12 S 3 3 dX10_cell_12 rfl rfl ?_
    obtain ⟨r4, hc5, h⟩ := br_some h
    refine gv_cSi 13 S (As := [.int v3]) (rest := []) (c_X10_isLane l X M1 v3 r4 hc5) (va_cwS 1 S.1.2.2.2.2 gX10_cell_X10_isLane rfl rfl rfl (by decide +kernel) ⟨Nat.le_of_ble_eq_true rfl, Nat.le_of_ble_eq_true rfl⟩) rfl rfl (Nat.le_of_ble_eq_true rfl) dX10_cell_13 ?_
    refine gv_if_ne 16 S 23 h dX10_cell_16 (by decide) (fun h => ?_) (fun h => ?_)
    · refine gv_aload_n 23 S 0 0 dX10_cell_23 rfl rfl ?_
      refine gv_get 24 S (hF_0_sheets X) mf_X10_cell_13 dX10_cell_24 ?_
      refine gv_iload_n 27 S 1 1 dX10_cell_27 rfl rfl ?_
      refine gv_aald 28 S h (hR_1 X) rfl dX10_cell_28 (fun hq6 h => ?_)
      refine gv_iload_n 29 S 3 3 dX10_cell_29 rfl rfl ?_
      refine gv_iload_n 30 S 2 2 dX10_cell_30 rfl rfl ?_
      refine gv_iconst 31 S (1 : Int32) dX10_cell_31 (by decide) ?_
      obtain ⟨r7, hc8, h⟩ := br_some h
      refine gv_cVi 32 S (As := [.int v3, .int v2, .int (1 : Int32)]) (rest := []) (c_X7_faultOf l X M1 (2 + 2 * v1.toNatClampNeg) v3 v2 (1 : Int32) (isSh_at hq6) r7 hc8) (hO_Sh (isSh_at hq6)) rfl (cwV 3 S.1.2.2.2.2 gX10_cell_X7_faultOf rfl rfl rfl (by decide +kernel) ⟨Nat.le_of_ble_eq_true rfl, Nat.le_of_ble_eq_true rfl⟩) rfl rfl (Nat.le_of_ble_eq_true rfl) dX10_cell_32 ?_
      refine gv_istore 35 S (lv' := [(4, .int r7), (0, .ref (X.2.2 0)), (1, .int v1), (2, .int v2), (3, .int v3)]) dX10_cell_35 (Nat.le_of_ble_eq_true rfl) rfl ?_
      refine gv_iload 37 S 0 dX10_cell_37 rfl ?_
      refine gv_if_eq 39 S 52 h dX10_cell_39 (by decide) (fun h => ?_) (fun h => ?_)
      · refine gv_aload_n 52 S 0 1 dX10_cell_52 rfl rfl ?_
        refine gv_get 53 S (hF_0_sheets X) mf_X10_cell_13 dX10_cell_53 ?_
        refine gv_iload_n 56 S 1 2 dX10_cell_56 rfl rfl ?_
        refine gv_aald 57 S h (hR_1 X) rfl dX10_cell_57 (fun hq9 h => ?_)
        refine gv_get 58 S (hF_Sh_cells (isSh_at hq9)) mf_X10_cell_97 dX10_cell_58 ?_
        refine gv_iload_n 61 S 2 3 dX10_cell_61 rfl rfl ?_
        refine gv_iald 62 S h (hI_Sh_cells (isSh_at hq9)) dX10_cell_62 (fun h => ?_)
        refine gv_i2l 63 S dX10_cell_63 ?_
        exact gv_lret 64 S h dX10_cell_64
      · refine gv_aload_n 42 S 0 1 dX10_cell_42 rfl rfl ?_
        refine gv_iload 43 S 0 dX10_cell_43 rfl ?_
        refine gv_put 45 S h (hP_0_lastFault X) mp_X10_cell_78 rfl rfl dX10_cell_45 (fun M10 h => ?_)
        refine gv_ldc2 48 S (v := (-9223372036854775808 : Int64)) (by decide +kernel) dX10_cell_48 ?_
        exact gv_lret 51 S h dX10_cell_51
    · refine gv_ldc2 19 S (v := (-9223372036854775808 : Int64)) (by decide +kernel) dX10_cell_19 ?_
      exact gv_lret 22 S h dX10_cell_22
theorem mi_X10_copy_10 : ∀ w ∈ u_ws RX10 TX10 12, w ∈ wsX10_copy := by decide +kernel
theorem mp_X10_copy_78 : MP wsX10_copy RX10 78 9 11 .int := ⟨RX10, TX10, 12, tyX10, rfl, by decide, mi_X10_copy_10, by decide +kernel, tyX10_ok, nmX10, rfl, by decide +kernel⟩
theorem mf_X10_copy_13 : MF wsX10_copy RX10 13 9 0 := ⟨RX10, TX10, 12, rfl, by decide, mi_X10_copy_10, by decide +kernel⟩
theorem mi_X10_copy_7 : ∀ w ∈ u_ws RX7 TX7 4, w ∈ wsX10_copy := by decide +kernel
theorem mf_X10_copy_264 : MF wsX10_copy RX10 264 7 1 := ⟨RX7, TX7, 4, rfl, by decide, mi_X10_copy_7, by decide +kernel⟩
theorem mf_X10_copy_268 : MF wsX10_copy RX10 268 7 2 := ⟨RX7, TX7, 4, rfl, by decide, mi_X10_copy_7, by decide +kernel⟩
theorem mf_X10_copy_97 : MF wsX10_copy RX10 97 7 0 := ⟨RX7, TX7, 4, rfl, by decide, mi_X10_copy_7, by decide +kernel⟩
abbrev rm_X10_copy : Room := { frames := 2, cells := 0, slots := 0, locals := 42 }
set_option maxHeartbeats 4000000 in
set_option maxRecDepth 100000 in
theorem c_X10_copy (l : Launch) (X : GE) (M : MM) (v1 : Int32) (v2 : Int32) (v3 : Int32) (v4 : Int32) (v5 : Int32) (r : Int32) (M' : MM) (h : f_X10_copy M v1 v2 v3 v4 v5 = some (r, M')) : CTi l yX10_copy wsX10_copy rm_X10_copy X [.ref (X.2.2 0), .int v1, .int v2, .int v3, .int v4, .int v5] M r M' := by
  refine ct_i (own := RX10) (by decide +kernel) rfl rfl (Nat.le_of_ble_eq_true rfl) (lv0 := [(0, .ref (X.2.2 0)), (1, .int v1), (2, .int v2), (3, .int v3), (4, .int v4), (5, .int v5)]) rfl ?_
  intro p e s m args below meth c S
  unfold f_X10_copy at h
  refine gv_aload_n 0 S 0 0 dX10_copy_0 rfl rfl ?_
  refine gv_iconst 1 S (0 : Int32) dX10_copy_1 (by decide) ?_
  refine gv_put 2 S h (hP_0_lastFault X) mp_X10_copy_78 rfl rfl dX10_copy_2 (fun M1 h => ?_)
  refine gv_iload_n 5 S 1 1 dX10_copy_5 rfl rfl ?_
  obtain ⟨r2, hc3, h⟩ := br_some h
  refine gv_cSi 6 S (As := [.int v1]) (rest := []) (c_X10_isSheet l X M1 v1 r2 hc3) (va_cwS 1 S.1.2.2.2.2 gX10_copy_X10_isSheet rfl rfl rfl (by decide +kernel) ⟨Nat.le_of_ble_eq_true rfl, Nat.le_of_ble_eq_true rfl⟩) rfl rfl (Nat.le_of_ble_eq_true rfl) dX10_copy_6 ?_
  refine gv_if_eq 9 S 19 h dX10_copy_9 (by decide) (fun h => ?_) (fun h => ?_)
  · refine gv_iconst 19 S (-1 : Int32) dX10_copy_19 (by decide) ?_
    exact gv_iret 20 S h dX10_copy_20
  · refine gv_iload_n 12 S 3 3 dX10_copy_12 rfl rfl ?_
    obtain ⟨r4, hc5, h⟩ := br_some h
    refine gv_cSi 13 S (As := [.int v3]) (rest := []) (c_X10_isSheet l X M1 v3 r4 hc5) (va_cwS 1 S.1.2.2.2.2 gX10_copy_X10_isSheet rfl rfl rfl (by decide +kernel) ⟨Nat.le_of_ble_eq_true rfl, Nat.le_of_ble_eq_true rfl⟩) rfl rfl (Nat.le_of_ble_eq_true rfl) dX10_copy_13 ?_
    refine gv_if_ne 16 S 21 h dX10_copy_16 (by decide) (fun h => ?_) (fun h => ?_)
    · refine gv_aload_n 21 S 0 0 dX10_copy_21 rfl rfl ?_
      refine gv_get 22 S (hF_0_sheets X) mf_X10_copy_13 dX10_copy_22 ?_
      refine gv_iload_n 25 S 1 1 dX10_copy_25 rfl rfl ?_
      refine gv_aald 26 S h (hR_1 X) rfl dX10_copy_26 (fun hq6 h => ?_)
      refine gv_astore 27 S (lv' := [(6, .ref (X.2.2 (2 + 2 * v1.toNatClampNeg))), (0, .ref (X.2.2 0)), (1, .int v1), (2, .int v2), (3, .int v3), (4, .int v4), (5, .int v5)]) dX10_copy_27 (Nat.le_of_ble_eq_true rfl) rfl ?_
      refine gv_aload_n 29 S 0 1 dX10_copy_29 rfl rfl ?_
      refine gv_get 30 S (hF_0_sheets X) mf_X10_copy_13 dX10_copy_30 ?_
      refine gv_iload_n 33 S 3 4 dX10_copy_33 rfl rfl ?_
      refine gv_aald 34 S h (hR_1 X) rfl dX10_copy_34 (fun hq7 h => ?_)
      refine gv_astore 35 S (lv' := [(7, .ref (X.2.2 (2 + 2 * v3.toNatClampNeg))), (6, .ref (X.2.2 (2 + 2 * v1.toNatClampNeg))), (0, .ref (X.2.2 0)), (1, .int v1), (2, .int v2), (3, .int v3), (4, .int v4), (5, .int v5)]) dX10_copy_35 (Nat.le_of_ble_eq_true rfl) rfl ?_
      refine gv_aload 37 S 1 dX10_copy_37 rfl ?_
      refine gv_get 39 S (hF_Sh_hasRow (isSh_at hq6)) mf_X10_copy_264 dX10_copy_39 ?_
      refine gv_if_eq 42 S 53 h dX10_copy_42 (by decide) (fun h => ?_) (fun h => ?_)
      · refine gv_aload_n 53 S 0 2 dX10_copy_53 rfl rfl ?_
        refine gv_iconst 54 S (1 : Int32) dX10_copy_54 (by decide) ?_
        obtain ⟨r8, M9, hc10, h⟩ := bi_some h
        refine gv_cVi 55 S (As := [.int (1 : Int32)]) (rest := []) (c_X10_faulted l X M1 (1 : Int32) r8 M9 hc10) (hO_0 X) rfl (cwV 1 S.1.2.2.2.2 gX10_copy_X10_faulted rfl rfl rfl (by decide +kernel) ⟨Nat.le_of_ble_eq_true rfl, Nat.le_of_ble_eq_true rfl⟩) rfl rfl (Nat.le_of_ble_eq_true rfl) dX10_copy_55 ?_
        exact gv_iret 58 S h dX10_copy_58
      · refine gv_aload 45 S 0 dX10_copy_45 rfl ?_
        refine gv_get 47 S (hF_Sh_hasRow (isSh_at hq7)) mf_X10_copy_264 dX10_copy_47 ?_
        refine gv_if_ne 50 S 59 h dX10_copy_50 (by decide) (fun h => ?_) (fun h => ?_)
        · refine gv_aload 59 S 1 dX10_copy_59 rfl ?_
          refine gv_get 61 S (hF_Sh_lane (isSh_at hq6)) mf_X10_copy_268 dX10_copy_61 ?_
          refine gv_aload 64 S 0 dX10_copy_64 rfl ?_
          refine gv_get 66 S (hF_Sh_lane (isSh_at hq7)) mf_X10_copy_268 dX10_copy_66 ?_
          refine gv_icmp_eq 69 S 78 h dX10_copy_69 (by decide) (fun h => ?_) (fun h => ?_)
          · refine gv_iload 78 S 7 dX10_copy_78 rfl ?_
            refine gv_if_lt 80 S 106 h dX10_copy_80 (by decide) (fun h => ?_) (fun h => ?_)
            · refine gv_aload_n 106 S 0 2 dX10_copy_106 rfl rfl ?_
              refine gv_iconst 107 S (3 : Int32) dX10_copy_107 (by decide) ?_
              obtain ⟨r11, M12, hc13, h⟩ := bi_some h
              refine gv_cVi 108 S (As := [.int (3 : Int32)]) (rest := []) (c_X10_faulted l X M1 (3 : Int32) r11 M12 hc13) (hO_0 X) rfl (cwV 1 S.1.2.2.2.2 gX10_copy_X10_faulted rfl rfl rfl (by decide +kernel) ⟨Nat.le_of_ble_eq_true rfl, Nat.le_of_ble_eq_true rfl⟩) rfl rfl (Nat.le_of_ble_eq_true rfl) dX10_copy_108 ?_
              exact gv_iret 111 S h dX10_copy_111
            · refine gv_aload 83 S 1 dX10_copy_83 rfl ?_
              refine gv_iload_n 85 S 2 4 dX10_copy_85 rfl rfl ?_
              refine gv_iload 86 S 7 dX10_copy_86 rfl ?_
              obtain ⟨r14, hc15, h⟩ := br_some h
              refine gv_cVi 88 S (As := [.int v2, .int v5]) (rest := []) (c_X7_hasCells l X M1 (2 + 2 * v1.toNatClampNeg) v2 v5 (isSh_at hq6) r14 hc15) (hO_Sh (isSh_at hq6)) rfl (cwV 2 S.1.2.2.2.2 gX10_copy_X7_hasCells rfl rfl rfl (by decide +kernel) ⟨Nat.le_of_ble_eq_true rfl, Nat.le_of_ble_eq_true rfl⟩) rfl rfl (Nat.le_of_ble_eq_true rfl) dX10_copy_88 ?_
              refine gv_if_eq 91 S 106 h dX10_copy_91 (by decide) (fun h => ?_) (fun h => ?_)
              · refine gv_aload_n 106 S 0 2 dX10_copy_106 rfl rfl ?_
                refine gv_iconst 107 S (3 : Int32) dX10_copy_107 (by decide) ?_
                obtain ⟨r16, M17, hc18, h⟩ := bi_some h
                refine gv_cVi 108 S (As := [.int (3 : Int32)]) (rest := []) (c_X10_faulted l X M1 (3 : Int32) r16 M17 hc18) (hO_0 X) rfl (cwV 1 S.1.2.2.2.2 gX10_copy_X10_faulted rfl rfl rfl (by decide +kernel) ⟨Nat.le_of_ble_eq_true rfl, Nat.le_of_ble_eq_true rfl⟩) rfl rfl (Nat.le_of_ble_eq_true rfl) dX10_copy_108 ?_
                exact gv_iret 111 S h dX10_copy_111
              · refine gv_aload 94 S 0 dX10_copy_94 rfl ?_
                refine gv_iload 96 S 6 dX10_copy_96 rfl ?_
                refine gv_iload 98 S 7 dX10_copy_98 rfl ?_
                obtain ⟨r19, hc20, h⟩ := br_some h
                refine gv_cVi 100 S (As := [.int v4, .int v5]) (rest := []) (c_X7_hasCells l X M1 (2 + 2 * v3.toNatClampNeg) v4 v5 (isSh_at hq7) r19 hc20) (hO_Sh (isSh_at hq7)) rfl (cwV 2 S.1.2.2.2.2 gX10_copy_X7_hasCells rfl rfl rfl (by decide +kernel) ⟨Nat.le_of_ble_eq_true rfl, Nat.le_of_ble_eq_true rfl⟩) rfl rfl (Nat.le_of_ble_eq_true rfl) dX10_copy_100 ?_
                refine gv_if_ne 103 S 112 h dX10_copy_103 (by decide) (fun h => ?_) (fun h => ?_)
                · refine gv_aload 112 S 1 dX10_copy_112 rfl ?_
                  refine gv_get 114 S (hF_Sh_cells (isSh_at hq6)) mf_X10_copy_97 dX10_copy_114 ?_
                  refine gv_iload_n 117 S 2 4 dX10_copy_117 rfl rfl ?_
                  refine gv_aload 118 S 0 dX10_copy_118 rfl ?_
                  refine gv_get 120 S (hF_Sh_cells (isSh_at hq7)) mf_X10_copy_97 dX10_copy_120 ?_
                  refine gv_iload 123 S 6 dX10_copy_123 rfl ?_
                  refine gv_iload 125 S 7 dX10_copy_125 rfl ?_
                  refine gv_copy 127 S h (hI_Sh_cells (isSh_at hq6)) (hI_Sh_cells (isSh_at hq7)) (by decide +kernel) (by decide +kernel) (by decide +kernel) (by decide +kernel) (Nat.le_of_ble_eq_true rfl) (Nat.le_of_ble_eq_true rfl) dX10_copy_127 (fun M21 h => ?_)
                  refine gv_iload 130 S 7 dX10_copy_130 rfl ?_
                  exact gv_iret 132 S h dX10_copy_132
                · refine gv_aload_n 106 S 0 2 dX10_copy_106 rfl rfl ?_
                  refine gv_iconst 107 S (3 : Int32) dX10_copy_107 (by decide) ?_
                  obtain ⟨r22, M23, hc24, h⟩ := bi_some h
                  refine gv_cVi 108 S (As := [.int (3 : Int32)]) (rest := []) (c_X10_faulted l X M1 (3 : Int32) r22 M23 hc24) (hO_0 X) rfl (cwV 1 S.1.2.2.2.2 gX10_copy_X10_faulted rfl rfl rfl (by decide +kernel) ⟨Nat.le_of_ble_eq_true rfl, Nat.le_of_ble_eq_true rfl⟩) rfl rfl (Nat.le_of_ble_eq_true rfl) dX10_copy_108 ?_
                  exact gv_iret 111 S h dX10_copy_111
          · refine gv_aload_n 72 S 0 2 dX10_copy_72 rfl rfl ?_
            refine gv_iconst 73 S (2 : Int32) dX10_copy_73 (by decide) ?_
            obtain ⟨r25, M26, hc27, h⟩ := bi_some h
            refine gv_cVi 74 S (As := [.int (2 : Int32)]) (rest := []) (c_X10_faulted l X M1 (2 : Int32) r25 M26 hc27) (hO_0 X) rfl (cwV 1 S.1.2.2.2.2 gX10_copy_X10_faulted rfl rfl rfl (by decide +kernel) ⟨Nat.le_of_ble_eq_true rfl, Nat.le_of_ble_eq_true rfl⟩) rfl rfl (Nat.le_of_ble_eq_true rfl) dX10_copy_74 ?_
            exact gv_iret 77 S h dX10_copy_77
        · refine gv_aload_n 53 S 0 2 dX10_copy_53 rfl rfl ?_
          refine gv_iconst 54 S (1 : Int32) dX10_copy_54 (by decide) ?_
          obtain ⟨r28, M29, hc30, h⟩ := bi_some h
          refine gv_cVi 55 S (As := [.int (1 : Int32)]) (rest := []) (c_X10_faulted l X M1 (1 : Int32) r28 M29 hc30) (hO_0 X) rfl (cwV 1 S.1.2.2.2.2 gX10_copy_X10_faulted rfl rfl rfl (by decide +kernel) ⟨Nat.le_of_ble_eq_true rfl, Nat.le_of_ble_eq_true rfl⟩) rfl rfl (Nat.le_of_ble_eq_true rfl) dX10_copy_55 ?_
          exact gv_iret 58 S h dX10_copy_58
    · refine gv_iconst 19 S (-1 : Int32) dX10_copy_19 (by decide) ?_
      exact gv_iret 20 S h dX10_copy_20
theorem mi_X10_leave_10 : ∀ w ∈ u_ws RX10 TX10 12, w ∈ wsX10_leave := by decide +kernel
theorem mf_X10_leave_297 : MF wsX10_leave RX10 297 9 10 := ⟨RX10, TX10, 12, rfl, by decide, mi_X10_leave_10, by decide +kernel⟩
theorem mp_X10_leave_297 : MP wsX10_leave RX10 297 9 10 .int := ⟨RX10, TX10, 12, tyX10, rfl, by decide, mi_X10_leave_10, by decide +kernel, tyX10_ok, nmX10, rfl, by decide +kernel⟩
abbrev rm_X10_leave : Room := { frames := 0, cells := 0, slots := 0, locals := 0 }
set_option maxHeartbeats 4000000 in
set_option maxRecDepth 100000 in
theorem c_X10_leave (l : Launch) (X : GE) (M : MM) (v1 : Int32) (M' : MM) (h : f_X10_leave M v1 = some M') : CTv l yX10_leave wsX10_leave rm_X10_leave X [.ref (X.2.2 0), .int v1] M M' := by
  refine ct_v (own := RX10) (by decide +kernel) rfl rfl (Nat.le_of_ble_eq_true rfl) (lv0 := [(0, .ref (X.2.2 0)), (1, .int v1)]) rfl ?_
  intro p e s m args below meth c S
  unfold f_X10_leave at h
  refine gv_aload_n 0 S 0 0 dX10_leave_0 rfl rfl ?_
  refine gv_bipush 1 S (31 : Int32) dX10_leave_1 (by decide) ?_
  refine gv_aload_n 3 S 0 0 dX10_leave_3 rfl rfl ?_
  refine gv_get 4 S (hF_0_left X) mf_X10_leave_297 dX10_leave_4 ?_
  refine gv_imul 7 S dX10_leave_7 ?_
  refine gv_iload_n 8 S 1 1 dX10_leave_8 rfl rfl ?_
  refine gv_iadd 9 S dX10_leave_9 ?_
  refine gv_put 10 S h (hP_0_left X) mp_X10_leave_297 rfl rfl dX10_leave_10 (fun M1 h => ?_)
  exact gv_vret 13 S h dX10_leave_13
abbrev rm_X10_lineTells : Room := { frames := 1, cells := 0, slots := 0, locals := 21 }
set_option maxHeartbeats 4000000 in
set_option maxRecDepth 100000 in
theorem c_X10_lineTells (l : Launch) (X : GE) (M : MM) (v1 : Int32) (r : Int32) (M' : MM) (h : f_X10_lineTells M v1 = some (r, M')) : CTi l yX10_lineTells wsX10_lineTells rm_X10_lineTells X [.ref (X.2.2 0), .int v1] M r M' := by
  refine ct_i (own := RX10) (by decide +kernel) rfl rfl (Nat.le_of_ble_eq_true rfl) (lv0 := [(0, .ref (X.2.2 0)), (1, .int v1)]) rfl ?_
  intro p e s m args below meth c S
  unfold f_X10_lineTells at h
  refine gv_aload_n 0 S 0 0 dX10_lineTells_0 rfl rfl ?_
  refine gv_iconst 1 S (1 : Int32) dX10_lineTells_1 (by decide) ?_
  obtain ⟨M2, hc3, h⟩ := br_some h
  refine gv_cVv 2 S (As := [.int (1 : Int32)]) (rest := []) (c_X10_leave l X M (1 : Int32) M2 hc3) (hO_0 X) rfl (cwV 1 S.1.2.2.2.2 gX10_lineTells_X10_leave rfl rfl rfl (by decide +kernel) ⟨Nat.le_of_ble_eq_true rfl, Nat.le_of_ble_eq_true rfl⟩) rfl rfl (Nat.le_of_ble_eq_true rfl) dX10_lineTells_2 ?_
  refine gv_iload_n 5 S 1 1 dX10_lineTells_5 rfl rfl ?_
  exact gv_iret 6 S h dX10_lineTells_6
abbrev rm_X10_arborTells : Room := { frames := 2, cells := 0, slots := 0, locals := 42 }
set_option maxHeartbeats 4000000 in
set_option maxRecDepth 100000 in
theorem c_X10_arborTells (l : Launch) (X : GE) (M : MM) (v1 : Int32) (r : Int32) (M' : MM) (h : f_X10_arborTells M v1 = some (r, M')) : CTi l yX10_arborTells wsX10_arborTells rm_X10_arborTells X [.ref (X.2.2 0), .int v1] M r M' := by
  refine ct_i (own := RX10) (by decide +kernel) rfl rfl (Nat.le_of_ble_eq_true rfl) (lv0 := [(0, .ref (X.2.2 0)), (1, .int v1)]) rfl ?_
  intro p e s m args below meth c S
  unfold f_X10_arborTells at h
  refine gv_aload_n 0 S 0 0 dX10_arborTells_0 rfl rfl ?_
  refine gv_iconst 1 S (2 : Int32) dX10_arborTells_1 (by decide) ?_
  obtain ⟨M2, hc3, h⟩ := br_some h
  refine gv_cVv 2 S (As := [.int (2 : Int32)]) (rest := []) (c_X10_leave l X M (2 : Int32) M2 hc3) (hO_0 X) rfl (cwV 1 S.1.2.2.2.2 gX10_arborTells_X10_leave rfl rfl rfl (by decide +kernel) ⟨Nat.le_of_ble_eq_true rfl, Nat.le_of_ble_eq_true rfl⟩) rfl rfl (Nat.le_of_ble_eq_true rfl) dX10_arborTells_2 ?_
  refine gv_aload_n 5 S 0 0 dX10_arborTells_5 rfl rfl ?_
  refine gv_iload_n 6 S 1 1 dX10_arborTells_6 rfl rfl ?_
  obtain ⟨r4, M5, hc6, h⟩ := bi_some h
  refine gv_cVi 7 S (As := [.int v1]) (rest := []) (c_X10_lineTells l X M2 v1 r4 M5 hc6) (hO_0 X) rfl (cwV 1 S.1.2.2.2.2 gX10_arborTells_X10_lineTells rfl rfl rfl (by decide +kernel) ⟨Nat.le_of_ble_eq_true rfl, Nat.le_of_ble_eq_true rfl⟩) rfl rfl (Nat.le_of_ble_eq_true rfl) dX10_arborTells_7 ?_
  refine gv_bipush 10 S (100 : Int32) dX10_arborTells_10 (by decide) ?_
  refine gv_iadd 12 S dX10_arborTells_12 ?_
  exact gv_iret 13 S h dX10_arborTells_13
abbrev rm_X10_winchTells : Room := { frames := 3, cells := 0, slots := 0, locals := 63 }
set_option maxHeartbeats 4000000 in
set_option maxRecDepth 100000 in
theorem c_X10_winchTells (l : Launch) (X : GE) (M : MM) (v1 : Int32) (r : Int32) (M' : MM) (h : f_X10_winchTells M v1 = some (r, M')) : CTi l yX10_winchTells wsX10_winchTells rm_X10_winchTells X [.ref (X.2.2 0), .int v1] M r M' := by
  refine ct_i (own := RX10) (by decide +kernel) rfl rfl (Nat.le_of_ble_eq_true rfl) (lv0 := [(0, .ref (X.2.2 0)), (1, .int v1)]) rfl ?_
  intro p e s m args below meth c S
  unfold f_X10_winchTells at h
  refine gv_aload_n 0 S 0 0 dX10_winchTells_0 rfl rfl ?_
  refine gv_iconst 1 S (3 : Int32) dX10_winchTells_1 (by decide) ?_
  obtain ⟨M2, hc3, h⟩ := br_some h
  refine gv_cVv 2 S (As := [.int (3 : Int32)]) (rest := []) (c_X10_leave l X M (3 : Int32) M2 hc3) (hO_0 X) rfl (cwV 1 S.1.2.2.2.2 gX10_winchTells_X10_leave rfl rfl rfl (by decide +kernel) ⟨Nat.le_of_ble_eq_true rfl, Nat.le_of_ble_eq_true rfl⟩) rfl rfl (Nat.le_of_ble_eq_true rfl) dX10_winchTells_2 ?_
  refine gv_aload_n 5 S 0 0 dX10_winchTells_5 rfl rfl ?_
  refine gv_iload_n 6 S 1 1 dX10_winchTells_6 rfl rfl ?_
  obtain ⟨r4, M5, hc6, h⟩ := bi_some h
  refine gv_cVi 7 S (As := [.int v1]) (rest := []) (c_X10_arborTells l X M2 v1 r4 M5 hc6) (hO_0 X) rfl (cwV 1 S.1.2.2.2.2 gX10_winchTells_X10_arborTells rfl rfl rfl (by decide +kernel) ⟨Nat.le_of_ble_eq_true rfl, Nat.le_of_ble_eq_true rfl⟩) rfl rfl (Nat.le_of_ble_eq_true rfl) dX10_winchTells_7 ?_
  refine gv_istore_n 10 S 2 (lv' := [(2, .int r4), (0, .ref (X.2.2 0)), (1, .int v1)]) dX10_winchTells_10 rfl (Nat.le_of_ble_eq_true rfl) rfl ?_
  refine gv_iload_n 11 S 2 0 dX10_winchTells_11 rfl rfl ?_
  refine gv_aload_n 12 S 0 1 dX10_winchTells_12 rfl rfl ?_
  refine gv_iload_n 13 S 1 2 dX10_winchTells_13 rfl rfl ?_
  obtain ⟨r7, M8, hc9, h⟩ := bi_some h
  refine gv_cVi 14 S (As := [.int v1]) (rest := [.int r4]) (c_X10_lineTells l X M5 v1 r7 M8 hc9) (hO_0 X) rfl (cwV 1 S.1.2.2.2.2 gX10_winchTells_X10_lineTells rfl rfl rfl (by decide +kernel) ⟨Nat.le_of_ble_eq_true rfl, Nat.le_of_ble_eq_true rfl⟩) rfl rfl (Nat.le_of_ble_eq_true rfl) dX10_winchTells_14 ?_
  refine gv_iadd 17 S dX10_winchTells_17 ?_
  exact gv_iret 18 S h dX10_winchTells_18
theorem mi_X10_tell_10 : ∀ w ∈ u_ws RX10 TX10 12, w ∈ wsX10_tell := by decide +kernel
theorem mf_X10_tell_32 : MF wsX10_tell RX10 32 9 1 := ⟨RX10, TX10, 12, rfl, by decide, mi_X10_tell_10, by decide +kernel⟩
theorem mi_X10_tell_1 : ∀ w ∈ u_ws RX1 TX1 4, w ∈ wsX10_tell := by decide +kernel
theorem mf_X10_tell_124 : MF wsX10_tell RX10 124 1 2 := ⟨RX1, TX1, 4, rfl, by decide, mi_X10_tell_1, by decide +kernel⟩
theorem mi_X10_tell_6 : ∀ w ∈ u_ws RX6 TX6 6, w ∈ wsX10_tell := by decide +kernel
theorem mf_X10_tell_128 : MF wsX10_tell RX10 128 6 0 := ⟨RX6, TX6, 6, rfl, by decide, mi_X10_tell_6, by decide +kernel⟩
theorem mf_X10_tell_121 : MF wsX10_tell RX10 121 1 0 := ⟨RX1, TX1, 4, rfl, by decide, mi_X10_tell_1, by decide +kernel⟩
abbrev rm_X10_tell : Room := { frames := 4, cells := 0, slots := 0, locals := 85 }
set_option maxHeartbeats 4000000 in
set_option maxRecDepth 100000 in
theorem c_X10_tell (l : Launch) (X : GE) (M : MM) (v1 : Int32) (r : Int32) (M' : MM) (h : f_X10_tell M v1 = some (r, M')) : CTi l yX10_tell wsX10_tell rm_X10_tell X [.ref (X.2.2 0), .int v1] M r M' := by
  refine ct_i (own := RX10) (by decide +kernel) rfl rfl (Nat.le_of_ble_eq_true rfl) (lv0 := [(0, .ref (X.2.2 0)), (1, .int v1)]) rfl ?_
  intro p e s m args below meth c S
  unfold f_X10_tell at h
  refine gv_aload_n 0 S 0 0 dX10_tell_0 rfl rfl ?_
  refine gv_get 1 S (hF_0_loft X) mf_X10_tell_32 dX10_tell_1 ?_
  refine gv_iload_n 4 S 1 1 dX10_tell_4 rfl rfl ?_
  obtain ⟨r1, hc2, h⟩ := br_some h
  refine gv_cVi 5 S (As := [.int v1]) (rest := []) (c_X1_has l X M v1 r1 hc2) (hO_20 X) rfl (cwV 1 S.1.2.2.2.2 gX10_tell_X1_has rfl rfl rfl (by decide +kernel) ⟨Nat.le_of_ble_eq_true rfl, Nat.le_of_ble_eq_true rfl⟩) rfl rfl (Nat.le_of_ble_eq_true rfl) dX10_tell_5 ?_
  refine gv_if_ne 8 S 13 h dX10_tell_8 (by decide) (fun h => ?_) (fun h => ?_)
  · refine gv_aload_n 13 S 0 0 dX10_tell_13 rfl rfl ?_
    refine gv_get 14 S (hF_0_loft X) mf_X10_tell_32 dX10_tell_14 ?_
    refine gv_get 17 S (hF_20_now X) mf_X10_tell_124 dX10_tell_17 ?_
    refine gv_get 20 S (hF_23_load X) mf_X10_tell_128 dX10_tell_20 ?_
    refine gv_iload_n 23 S 1 1 dX10_tell_23 rfl rfl ?_
    refine gv_iald 24 S h (hI_24 X) dX10_tell_24 (fun h => ?_)
    refine gv_nmi h (fun x3 h => ?_)
    refine gv_istore_n 25 S 2 (lv' := [(2, .int x3), (0, .ref (X.2.2 0)), (1, .int v1)]) dX10_tell_25 rfl (Nat.le_of_ble_eq_true rfl) rfl ?_
    refine gv_aload_n 26 S 0 1 dX10_tell_26 rfl rfl ?_
    refine gv_get 27 S (hF_0_loft X) mf_X10_tell_32 dX10_tell_27 ?_
    refine gv_get 30 S (hF_20_kind X) mf_X10_tell_121 dX10_tell_30 ?_
    refine gv_iload_n 33 S 1 2 dX10_tell_33 rfl rfl ?_
    refine gv_iald 34 S h (hI_21 X) dX10_tell_34 (fun h => ?_)
    by_cases hq7 : (M 21 v1.toNatClampNeg) = 0
    · rw [if_pos hq7] at h
      refine gv_lookup 35 S 60 dX10_tell_35 (by decide) (by rw [hq7] <;> rfl) (by decide) ?_
      refine gv_aload_n 60 S 0 1 dX10_tell_60 rfl rfl ?_
      refine gv_iload_n 61 S 2 0 dX10_tell_61 rfl rfl ?_
      obtain ⟨r4, M5, hc6, h⟩ := bi_some h
      refine gv_cVi 62 S (As := [.int x3]) (rest := []) (c_X10_lineTells l X M x3 r4 M5 hc6) (hO_0 X) rfl (cwV 1 S.1.2.2.2.2 gX10_tell_X10_lineTells rfl rfl rfl (by decide +kernel) ⟨Nat.le_of_ble_eq_true rfl, Nat.le_of_ble_eq_true rfl⟩) rfl rfl (Nat.le_of_ble_eq_true rfl) dX10_tell_62 ?_
      exact gv_iret 65 S h dX10_tell_65
    rw [if_neg hq7] at h
    by_cases hq11 : (M 21 v1.toNatClampNeg) = 1
    · rw [if_pos hq11] at h
      refine gv_lookup 35 S 66 dX10_tell_35 (by decide) (by rw [hq11] <;> rfl) (by decide) ?_
      refine gv_aload_n 66 S 0 1 dX10_tell_66 rfl rfl ?_
      refine gv_iload_n 67 S 2 0 dX10_tell_67 rfl rfl ?_
      obtain ⟨r8, M9, hc10, h⟩ := bi_some h
      refine gv_cVi 68 S (As := [.int x3]) (rest := []) (c_X10_arborTells l X M x3 r8 M9 hc10) (hO_0 X) rfl (cwV 1 S.1.2.2.2.2 gX10_tell_X10_arborTells rfl rfl rfl (by decide +kernel) ⟨Nat.le_of_ble_eq_true rfl, Nat.le_of_ble_eq_true rfl⟩) rfl rfl (Nat.le_of_ble_eq_true rfl) dX10_tell_68 ?_
      exact gv_iret 71 S h dX10_tell_71
    rw [if_neg hq11] at h
    refine gv_lookup 35 S 72 (off := 37) dX10_tell_35 (by decide) (by show Op.lookupswitch.offset [(0, 25), (1, 31)] 37 _ = _; rw [lv_osw (a := 0) hq7 rfl, lv_osw (a := 1) hq11 rfl] <;> rfl) (by decide) ?_
    refine gv_aload_n 72 S 0 1 dX10_tell_72 rfl rfl ?_
    refine gv_iload_n 73 S 2 0 dX10_tell_73 rfl rfl ?_
    obtain ⟨r12, M13, hc14, h⟩ := bi_some h
    refine gv_cVi 74 S (As := [.int x3]) (rest := []) (c_X10_winchTells l X M x3 r12 M13 hc14) (hO_0 X) rfl (cwV 1 S.1.2.2.2.2 gX10_tell_X10_winchTells rfl rfl rfl (by decide +kernel) ⟨Nat.le_of_ble_eq_true rfl, Nat.le_of_ble_eq_true rfl⟩) rfl rfl (Nat.le_of_ble_eq_true rfl) dX10_tell_74 ?_
    exact gv_iret 77 S h dX10_tell_77
  · refine gv_iconst 11 S (-1 : Int32) dX10_tell_11 (by decide) ?_
    exact gv_iret 12 S h dX10_tell_12
theorem mi_X10_call_10 : ∀ w ∈ u_ws RX10 TX10 12, w ∈ wsX10_call := by decide +kernel
theorem mf_X10_call_32 : MF wsX10_call RX10 32 9 1 := ⟨RX10, TX10, 12, rfl, by decide, mi_X10_call_10, by decide +kernel⟩
theorem mi_X10_call_1 : ∀ w ∈ u_ws RX1 TX1 4, w ∈ wsX10_call := by decide +kernel
theorem mf_X10_call_121 : MF wsX10_call RX10 121 1 0 := ⟨RX1, TX1, 4, rfl, by decide, mi_X10_call_1, by decide +kernel⟩
abbrev rm_X10_call : Room := { frames := 1, cells := 0, slots := 0, locals := 21 }
set_option maxHeartbeats 4000000 in
set_option maxRecDepth 100000 in
theorem c_X10_call (l : Launch) (X : GE) (M : MM) (v1 : Int32) (r : Int32) (M' : MM) (h : f_X10_call M v1 = some (r, M')) : CTi l yX10_call wsX10_call rm_X10_call X [.ref (X.2.2 0), .int v1] M r M' := by
  refine ct_i (own := RX10) (by decide +kernel) rfl rfl (Nat.le_of_ble_eq_true rfl) (lv0 := [(0, .ref (X.2.2 0)), (1, .int v1)]) rfl ?_
  intro p e s m args below meth c S
  unfold f_X10_call at h
  refine gv_aload_n 0 S 0 0 dX10_call_0 rfl rfl ?_
  refine gv_get 1 S (hF_0_loft X) mf_X10_call_32 dX10_call_1 ?_
  refine gv_iload_n 4 S 1 1 dX10_call_4 rfl rfl ?_
  obtain ⟨r1, hc2, h⟩ := br_some h
  refine gv_cVi 5 S (As := [.int v1]) (rest := []) (c_X1_has l X M v1 r1 hc2) (hO_20 X) rfl (cwV 1 S.1.2.2.2.2 gX10_call_X1_has rfl rfl rfl (by decide +kernel) ⟨Nat.le_of_ble_eq_true rfl, Nat.le_of_ble_eq_true rfl⟩) rfl rfl (Nat.le_of_ble_eq_true rfl) dX10_call_5 ?_
  refine gv_if_ne 8 S 13 h dX10_call_8 (by decide) (fun h => ?_) (fun h => ?_)
  · refine gv_aload_n 13 S 0 0 dX10_call_13 rfl rfl ?_
    refine gv_get 14 S (hF_0_loft X) mf_X10_call_32 dX10_call_14 ?_
    refine gv_get 17 S (hF_20_kind X) mf_X10_call_121 dX10_call_17 ?_
    refine gv_iload_n 20 S 1 1 dX10_call_20 rfl rfl ?_
    refine gv_iald 21 S h (hI_21 X) dX10_call_21 (fun h => ?_)
    refine gv_iconst 22 S (2 : Int32) dX10_call_22 (by decide) ?_
    refine gv_icmp_ne 23 S 34 h dX10_call_23 (by decide) (fun h => ?_) (fun h => ?_)
    · refine gv_aload_n 34 S 0 0 dX10_call_34 rfl rfl ?_
      refine gv_iconst 35 S (4 : Int32) dX10_call_35 (by decide) ?_
      obtain ⟨M4, hc5, h⟩ := br_some h
      refine gv_cVv 36 S (As := [.int (4 : Int32)]) (rest := []) (c_X10_leave l X M (4 : Int32) M4 hc5) (hO_0 X) rfl (cwV 1 S.1.2.2.2.2 gX10_call_X10_leave rfl rfl rfl (by decide +kernel) ⟨Nat.le_of_ble_eq_true rfl, Nat.le_of_ble_eq_true rfl⟩) rfl rfl (Nat.le_of_ble_eq_true rfl) dX10_call_36 ?_
      refine gv_iload_n 39 S 1 1 dX10_call_39 rfl rfl ?_
      exact gv_iret 40 S h dX10_call_40
    · refine gv_aload_n 26 S 0 0 dX10_call_26 rfl rfl ?_
      refine gv_iconst 27 S (5 : Int32) dX10_call_27 (by decide) ?_
      obtain ⟨M7, hc8, h⟩ := br_some h
      refine gv_cVv 28 S (As := [.int (5 : Int32)]) (rest := []) (c_X10_leave l X M (5 : Int32) M7 hc8) (hO_0 X) rfl (cwV 1 S.1.2.2.2.2 gX10_call_X10_leave rfl rfl rfl (by decide +kernel) ⟨Nat.le_of_ble_eq_true rfl, Nat.le_of_ble_eq_true rfl⟩) rfl rfl (Nat.le_of_ble_eq_true rfl) dX10_call_28 ?_
      refine gv_bipush 31 S (40 : Int32) dX10_call_31 (by decide) ?_
      exact gv_iret 33 S h dX10_call_33
  · refine gv_iconst 11 S (-1 : Int32) dX10_call_11 (by decide) ?_
    exact gv_iret 12 S h dX10_call_12
theorem mi_X10_as_10 : ∀ w ∈ u_ws RX10 TX10 12, w ∈ wsX10_as := by decide +kernel
theorem mp_X10_as_78 : MP wsX10_as RX10 78 9 11 .int := ⟨RX10, TX10, 12, tyX10, rfl, by decide, mi_X10_as_10, by decide +kernel, tyX10_ok, nmX10, rfl, by decide +kernel⟩
theorem mf_X10_as_32 : MF wsX10_as RX10 32 9 1 := ⟨RX10, TX10, 12, rfl, by decide, mi_X10_as_10, by decide +kernel⟩
theorem mi_X10_as_1 : ∀ w ∈ u_ws RX1 TX1 4, w ∈ wsX10_as := by decide +kernel
theorem mf_X10_as_121 : MF wsX10_as RX10 121 1 0 := ⟨RX1, TX1, 4, rfl, by decide, mi_X10_as_1, by decide +kernel⟩
abbrev rm_X10_as : Room := { frames := 1, cells := 0, slots := 0, locals := 22 }
set_option maxHeartbeats 4000000 in
set_option maxRecDepth 100000 in
theorem c_X10_as (l : Launch) (X : GE) (M : MM) (v1 : Int32) (v2 : Int32) (r : Int32) (M' : MM) (h : f_X10_as M v1 v2 = some (r, M')) : CTi l yX10_as wsX10_as rm_X10_as X [.ref (X.2.2 0), .int v1, .int v2] M r M' := by
  refine ct_i (own := RX10) (by decide +kernel) rfl rfl (Nat.le_of_ble_eq_true rfl) (lv0 := [(0, .ref (X.2.2 0)), (1, .int v1), (2, .int v2)]) rfl ?_
  intro p e s m args below meth c S
  unfold f_X10_as at h
  refine gv_aload_n 0 S 0 0 dX10_as_0 rfl rfl ?_
  refine gv_iconst 1 S (0 : Int32) dX10_as_1 (by decide) ?_
  refine gv_put 2 S h (hP_0_lastFault X) mp_X10_as_78 rfl rfl dX10_as_2 (fun M1 h => ?_)
  refine gv_aload_n 5 S 0 0 dX10_as_5 rfl rfl ?_
  refine gv_get 6 S (hF_0_loft X) mf_X10_as_32 dX10_as_6 ?_
  refine gv_iload_n 9 S 1 1 dX10_as_9 rfl rfl ?_
  obtain ⟨r2, hc3, h⟩ := br_some h
  refine gv_cVi 10 S (As := [.int v1]) (rest := []) (c_X1_has l X M1 v1 r2 hc3) (hO_20 X) rfl (cwV 1 S.1.2.2.2.2 gX10_as_X1_has rfl rfl rfl (by decide +kernel) ⟨Nat.le_of_ble_eq_true rfl, Nat.le_of_ble_eq_true rfl⟩) rfl rfl (Nat.le_of_ble_eq_true rfl) dX10_as_10 ?_
  refine gv_if_ne 13 S 18 h dX10_as_13 (by decide) (fun h => ?_) (fun h => ?_)
  · refine gv_iload_n 18 S 2 2 dX10_as_18 rfl rfl ?_
    refine gv_iconst 19 S (0 : Int32) dX10_as_19 (by decide) ?_
    refine gv_iconst 20 S (2 : Int32) dX10_as_20 (by decide) ?_
    obtain ⟨r4, hc5, h⟩ := br_some h
    refine gv_cSi 21 S (As := [.int v2, .int (0 : Int32), .int (2 : Int32)]) (rest := []) (c_X10_within l X M1 v2 (0 : Int32) (2 : Int32) r4 hc5) (va_cwS 3 S.1.2.2.2.2 gX10_as_X10_within rfl rfl rfl (by decide +kernel) ⟨Nat.le_of_ble_eq_true rfl, Nat.le_of_ble_eq_true rfl⟩) rfl rfl (Nat.le_of_ble_eq_true rfl) dX10_as_21 ?_
    refine gv_if_ne 24 S 30 h dX10_as_24 (by decide) (fun h => ?_) (fun h => ?_)
    · refine gv_aload_n 30 S 0 0 dX10_as_30 rfl rfl ?_
      refine gv_get 31 S (hF_0_loft X) mf_X10_as_32 dX10_as_31 ?_
      refine gv_get 34 S (hF_20_kind X) mf_X10_as_121 dX10_as_34 ?_
      refine gv_iload_n 37 S 1 1 dX10_as_37 rfl rfl ?_
      refine gv_iald 38 S h (hI_21 X) dX10_as_38 (fun h => ?_)
      refine gv_iload_n 39 S 2 2 dX10_as_39 rfl rfl ?_
      refine gv_icmp_ge 40 S 51 h dX10_as_40 (by decide) (fun h => ?_) (fun h => ?_)
      · refine gv_iconst 51 S (1 : Int32) dX10_as_51 (by decide) ?_
        exact gv_iret 52 S h dX10_as_52
      · refine gv_aload_n 43 S 0 0 dX10_as_43 rfl rfl ?_
        refine gv_iconst 44 S (2 : Int32) dX10_as_44 (by decide) ?_
        obtain ⟨r6, M7, hc8, h⟩ := bi_some h
        refine gv_cVi 45 S (As := [.int (2 : Int32)]) (rest := []) (c_X10_faulted l X M1 (2 : Int32) r6 M7 hc8) (hO_0 X) rfl (cwV 1 S.1.2.2.2.2 gX10_as_X10_faulted rfl rfl rfl (by decide +kernel) ⟨Nat.le_of_ble_eq_true rfl, Nat.le_of_ble_eq_true rfl⟩) rfl rfl (Nat.le_of_ble_eq_true rfl) dX10_as_45 ?_
        refine gv_goto 48 S 52 dX10_as_48 (by decide) ?_
        exact gv_iret 52 S h dX10_as_52
    · refine gv_bipush 27 S (-2 : Int32) dX10_as_27 (by decide) ?_
      exact gv_iret 29 S h dX10_as_29
  · refine gv_iconst 16 S (-1 : Int32) dX10_as_16 (by decide) ?_
    exact gv_iret 17 S h dX10_as_17
theorem mi_X10_trace_10 : ∀ w ∈ u_ws RX10 TX10 12, w ∈ wsX10_trace := by decide +kernel
theorem mf_X10_trace_297 : MF wsX10_trace RX10 297 9 10 := ⟨RX10, TX10, 12, rfl, by decide, mi_X10_trace_10, by decide +kernel⟩
abbrev rm_X10_trace : Room := { frames := 0, cells := 0, slots := 0, locals := 0 }
set_option maxHeartbeats 4000000 in
set_option maxRecDepth 100000 in
theorem c_X10_trace (l : Launch) (X : GE) (M : MM) (r : Int32) (h : f_X10_trace M = some r) : CTi l yX10_trace wsX10_trace rm_X10_trace X [.ref (X.2.2 0)] M r M := by
  refine ct_i (own := RX10) (by decide +kernel) rfl rfl (Nat.le_of_ble_eq_true rfl) (lv0 := [(0, .ref (X.2.2 0))]) rfl ?_
  intro p e s m args below meth c S
  unfold f_X10_trace at h
  refine gv_aload_n 0 S 0 0 dX10_trace_0 rfl rfl ?_
  refine gv_get 1 S (hF_0_left X) mf_X10_trace_297 dX10_trace_1 ?_
  exact gv_iretR 4 S h dX10_trace_4
theorem mi_X10_fault_10 : ∀ w ∈ u_ws RX10 TX10 12, w ∈ wsX10_fault := by decide +kernel
theorem mf_X10_fault_78 : MF wsX10_fault RX10 78 9 11 := ⟨RX10, TX10, 12, rfl, by decide, mi_X10_fault_10, by decide +kernel⟩
abbrev rm_X10_fault : Room := { frames := 0, cells := 0, slots := 0, locals := 0 }
set_option maxHeartbeats 4000000 in
set_option maxRecDepth 100000 in
theorem c_X10_fault (l : Launch) (X : GE) (M : MM) (r : Int32) (h : f_X10_fault M = some r) : CTi l yX10_fault wsX10_fault rm_X10_fault X [.ref (X.2.2 0)] M r M := by
  refine ct_i (own := RX10) (by decide +kernel) rfl rfl (Nat.le_of_ble_eq_true rfl) (lv0 := [(0, .ref (X.2.2 0))]) rfl ?_
  intro p e s m args below meth c S
  unfold f_X10_fault at h
  refine gv_aload_n 0 S 0 0 dX10_fault_0 rfl rfl ?_
  refine gv_get 1 S (hF_0_lastFault X) mf_X10_fault_78 dX10_fault_1 ?_
  exact gv_iretR 4 S h dX10_fault_4
theorem mi_X10_many_10 : ∀ w ∈ u_ws RX10 TX10 12, w ∈ wsX10_many := by decide +kernel
theorem mf_X10_many_32 : MF wsX10_many RX10 32 9 1 := ⟨RX10, TX10, 12, rfl, by decide, mi_X10_many_10, by decide +kernel⟩
theorem mi_X10_many_1 : ∀ w ∈ u_ws RX1 TX1 4, w ∈ wsX10_many := by decide +kernel
theorem mf_X10_many_117 : MF wsX10_many RX10 117 1 3 := ⟨RX1, TX1, 4, rfl, by decide, mi_X10_many_1, by decide +kernel⟩
theorem mf_X10_many_124 : MF wsX10_many RX10 124 1 2 := ⟨RX1, TX1, 4, rfl, by decide, mi_X10_many_1, by decide +kernel⟩
theorem mi_X10_many_6 : ∀ w ∈ u_ws RX6 TX6 6, w ∈ wsX10_many := by decide +kernel
theorem mf_X10_many_158 : MF wsX10_many RX10 158 6 4 := ⟨RX6, TX6, 6, rfl, by decide, mi_X10_many_6, by decide +kernel⟩
theorem mf_X10_many_161 : MF wsX10_many RX10 161 6 5 := ⟨RX6, TX6, 6, rfl, by decide, mi_X10_many_6, by decide +kernel⟩
theorem mf_X10_many_194 : MF wsX10_many RX10 194 6 3 := ⟨RX6, TX6, 6, rfl, by decide, mi_X10_many_6, by decide +kernel⟩
theorem mf_X10_many_39 : MF wsX10_many RX10 39 9 2 := ⟨RX10, TX10, 12, rfl, by decide, mi_X10_many_10, by decide +kernel⟩
theorem mi_X10_many_3 : ∀ w ∈ u_ws RX3 TX3 3, w ∈ wsX10_many := by decide +kernel
theorem mf_X10_many_197 : MF wsX10_many RX10 197 3 1 := ⟨RX3, TX3, 3, rfl, by decide, mi_X10_many_3, by decide +kernel⟩
theorem mf_X10_many_46 : MF wsX10_many RX10 46 9 5 := ⟨RX10, TX10, 12, rfl, by decide, mi_X10_many_10, by decide +kernel⟩
theorem mi_X10_many_5 : ∀ w ∈ u_ws RX5 TX5 4, w ∈ wsX10_many := by decide +kernel
theorem mf_X10_many_114 : MF wsX10_many RX10 114 5 3 := ⟨RX5, TX5, 4, rfl, by decide, mi_X10_many_5, by decide +kernel⟩
abbrev rm_X10_many : Room := { frames := 0, cells := 0, slots := 0, locals := 0 }
set_option maxHeartbeats 4000000 in
set_option maxRecDepth 100000 in
theorem c_X10_many (l : Launch) (X : GE) (M : MM) (v1 : Int32) (r : Int32) (h : f_X10_many M v1 = some r) : CTi l yX10_many wsX10_many rm_X10_many X [.ref (X.2.2 0), .int v1] M r M := by
  refine ct_i (own := RX10) (by decide +kernel) rfl rfl (Nat.le_of_ble_eq_true rfl) (lv0 := [(0, .ref (X.2.2 0)), (1, .int v1)]) rfl ?_
  intro p e s m args below meth c S
  unfold f_X10_many at h
  refine gv_iload_n 0 S 1 1 dX10_many_0 rfl rfl ?_
  by_cases hq1 : v1 = 0
  · rw [if_pos hq1] at h
    refine gv_tabIn 1 S 40 dX10_many_1 (by rw [hq1]; decide) (by rw [hq1]; decide) (by rw [hq1] <;> rfl) (by decide) ?_
    refine gv_aload_n 40 S 0 0 dX10_many_40 rfl rfl ?_
    refine gv_get 41 S (hF_0_loft X) mf_X10_many_32 dX10_many_41 ?_
    refine gv_get 44 S (hF_20_count X) mf_X10_many_117 dX10_many_44 ?_
    exact gv_iretR 47 S h dX10_many_47
  rw [if_neg hq1] at h
  by_cases hq2 : v1 = 1
  · rw [if_pos hq2] at h
    refine gv_tabIn 1 S 48 dX10_many_1 (by rw [hq2]; decide) (by rw [hq2]; decide) (by rw [hq2] <;> rfl) (by decide) ?_
    refine gv_aload_n 48 S 0 0 dX10_many_48 rfl rfl ?_
    refine gv_get 49 S (hF_0_loft X) mf_X10_many_32 dX10_many_49 ?_
    refine gv_get 52 S (hF_20_now X) mf_X10_many_124 dX10_many_52 ?_
    refine gv_get 55 S (hF_23_hands X) mf_X10_many_158 dX10_many_55 ?_
    exact gv_iretR 58 S h dX10_many_58
  rw [if_neg hq2] at h
  by_cases hq3 : v1 = 2
  · rw [if_pos hq3] at h
    refine gv_tabIn 1 S 59 dX10_many_1 (by rw [hq3]; decide) (by rw [hq3]; decide) (by rw [hq3] <;> rfl) (by decide) ?_
    refine gv_aload_n 59 S 0 0 dX10_many_59 rfl rfl ?_
    refine gv_get 60 S (hF_0_loft X) mf_X10_many_32 dX10_many_60 ?_
    refine gv_get 63 S (hF_20_now X) mf_X10_many_124 dX10_many_63 ?_
    refine gv_get 66 S (hF_23_trim X) mf_X10_many_161 dX10_many_66 ?_
    exact gv_iretR 69 S h dX10_many_69
  rw [if_neg hq3] at h
  by_cases hq4 : v1 = 3
  · rw [if_pos hq4] at h
    refine gv_tabIn 1 S 70 dX10_many_1 (by rw [hq4]; decide) (by rw [hq4]; decide) (by rw [hq4] <;> rfl) (by decide) ?_
    refine gv_aload_n 70 S 0 0 dX10_many_70 rfl rfl ?_
    refine gv_get 71 S (hF_0_loft X) mf_X10_many_32 dX10_many_71 ?_
    refine gv_get 74 S (hF_20_now X) mf_X10_many_124 dX10_many_74 ?_
    refine gv_get 77 S (hF_23_stock X) mf_X10_many_194 dX10_many_77 ?_
    exact gv_iretR 80 S h dX10_many_80
  rw [if_neg hq4] at h
  by_cases hq5 : v1 = 4
  · rw [if_pos hq5] at h
    refine gv_tabIn 1 S 81 dX10_many_1 (by rw [hq5]; decide) (by rw [hq5]; decide) (by rw [hq5] <;> rfl) (by decide) ?_
    refine gv_aload_n 81 S 0 0 dX10_many_81 rfl rfl ?_
    refine gv_get 82 S (hF_0_past X) mf_X10_many_39 dX10_many_82 ?_
    refine gv_get 85 S (hF_27_known X) mf_X10_many_197 dX10_many_85 ?_
    exact gv_iretR 88 S h dX10_many_88
  rw [if_neg hq5] at h
  by_cases hq6 : v1 = 5
  · rw [if_pos hq6] at h
    refine gv_tabIn 1 S 89 dX10_many_1 (by rw [hq6]; decide) (by rw [hq6]; decide) (by rw [hq6] <;> rfl) (by decide) ?_
    refine gv_aload_n 89 S 0 0 dX10_many_89 rfl rfl ?_
    refine gv_get 90 S (hF_0_readings X) mf_X10_many_46 dX10_many_90 ?_
    refine gv_get 93 S (hF_61_count X) mf_X10_many_114 dX10_many_93 ?_
    exact gv_iretR 96 S h dX10_many_96
  rw [if_neg hq6] at h
  have hq1 : ¬ v1.toInt = 0 := lv_neT hq1 rfl
  have hq2 : ¬ v1.toInt = 1 := lv_neT hq2 rfl
  have hq3 : ¬ v1.toInt = 2 := lv_neT hq3 rfl
  have hq4 : ¬ v1.toInt = 3 := lv_neT hq4 rfl
  have hq5 : ¬ v1.toInt = 4 := lv_neT hq5 rfl
  have hq6 : ¬ v1.toInt = 5 := lv_neT hq6 rfl
  refine gv_tabOut 1 S 97 dX10_many_1 (by omega) (by decide) ?_
  refine gv_bipush 97 S (-2 : Int32) dX10_many_97 (by decide) ?_
  exact gv_iretR 99 S h dX10_many_99
theorem mi_X11_fails_11 : ∀ w ∈ u_ws RX11 TX11 39, w ∈ wsX11_fails := by decide +kernel
theorem mp_X11_fails_77 : MP wsX11_fails RX11 77 10 0 .int := ⟨RX11, TX11, 39, tyX11, rfl, by decide, mi_X11_fails_11, by decide +kernel, tyX11_ok, nmX11, rfl, by decide +kernel⟩
abbrev rm_X11_fails : Room := { frames := 0, cells := 0, slots := 0, locals := 0 }
set_option maxHeartbeats 4000000 in
set_option maxRecDepth 100000 in
theorem c_X11_fails (l : Launch) (X : GE) (M : MM) (v1 : Int32) (r : Int32) (M' : MM) (h : f_X11_fails M v1 = some (r, M')) : CTi l yX11_fails wsX11_fails rm_X11_fails X [.ref (X.2.2 83), .int v1] M r M' := by
  refine ct_i (own := RX11) (by decide +kernel) rfl rfl (Nat.le_of_ble_eq_true rfl) (lv0 := [(0, .ref (X.2.2 83)), (1, .int v1)]) rfl ?_
  intro p e s m args below meth c S
  unfold f_X11_fails at h
  refine gv_aload_n 0 S 0 0 dX11_fails_0 rfl rfl ?_
  refine gv_iload_n 1 S 1 1 dX11_fails_1 rfl rfl ?_
  refine gv_put 2 S h (hP_83_fault X) mp_X11_fails_77 rfl rfl dX11_fails_2 (fun M1 h => ?_)
  refine gv_bipush 5 S (-10 : Int32) dX11_fails_5 (by decide) ?_
  refine gv_iload_n 7 S 1 1 dX11_fails_7 rfl rfl ?_
  refine gv_isub 8 S dX11_fails_8 ?_
  exact gv_iret 9 S h dX11_fails_9
theorem mi_X11_lost_11 : ∀ w ∈ u_ws RX11 TX11 39, w ∈ wsX11_lost := by decide +kernel
theorem mp_X11_lost_77 : MP wsX11_lost RX11 77 10 0 .int := ⟨RX11, TX11, 39, tyX11, rfl, by decide, mi_X11_lost_11, by decide +kernel, tyX11_ok, nmX11, rfl, by decide +kernel⟩
abbrev rm_X11_lost : Room := { frames := 0, cells := 0, slots := 0, locals := 0 }
set_option maxHeartbeats 4000000 in
set_option maxRecDepth 100000 in
theorem c_X11_lost (l : Launch) (X : GE) (M : MM) (v1 : Int32) (r : Int64) (M' : MM) (h : f_X11_lost M v1 = some (r, M')) : CTl l yX11_lost wsX11_lost rm_X11_lost X [.ref (X.2.2 83), .int v1] M r M' := by
  refine ct_l (own := RX11) (by decide +kernel) rfl rfl (Nat.le_of_ble_eq_true rfl) (lv0 := [(0, .ref (X.2.2 83)), (1, .int v1)]) rfl ?_
  intro p e s m args below meth c S
  unfold f_X11_lost at h
  refine gv_aload_n 0 S 0 0 dX11_lost_0 rfl rfl ?_
  refine gv_iload_n 1 S 1 1 dX11_lost_1 rfl rfl ?_
  refine gv_put 2 S h (hP_83_fault X) mp_X11_lost_77 rfl rfl dX11_lost_2 (fun M1 h => ?_)
  refine gv_ldc2 5 S (v := (-9223372036854775808 : Int64)) (by decide +kernel) dX11_lost_5 ?_
  exact gv_lret 8 S h dX11_lost_8
abbrev rm_X11_within : Room := { frames := 0, cells := 0, slots := 0, locals := 0 }
set_option maxHeartbeats 4000000 in
set_option maxRecDepth 100000 in
theorem c_X11_within (l : Launch) (X : GE) (M : MM) (v0 : Int32) (v1 : Int32) (v2 : Int32) (r : Int32) (h : f_X11_within M v0 v1 v2 = some r) : CTi l yX11_within wsX11_within rm_X11_within X [.int v0, .int v1, .int v2] M r M := by
  refine ct_i (own := RX11) (by decide +kernel) rfl rfl (Nat.le_of_ble_eq_true rfl) (lv0 := [(0, .int v0), (1, .int v1), (2, .int v2)]) rfl ?_
  intro p e s m args below meth c S
  unfold f_X11_within at h
  refine gv_iload_n 0 S 0 0 dX11_within_0 rfl rfl ?_
  refine gv_iload_n 1 S 1 1 dX11_within_1 rfl rfl ?_
  refine gv_icmp_lt 2 S 14 h dX11_within_2 (by decide) (fun h => ?_) (fun h => ?_)
  · refine gv_iconst 14 S (0 : Int32) dX11_within_14 (by decide) ?_
    exact gv_zretR 15 S h rfl dX11_within_15
  · refine gv_iload_n 5 S 0 0 dX11_within_5 rfl rfl ?_
    refine gv_iload_n 6 S 2 2 dX11_within_6 rfl rfl ?_
    refine gv_icmp_gt 7 S 14 h dX11_within_7 (by decide) (fun h => ?_) (fun h => ?_)
    · refine gv_iconst 14 S (0 : Int32) dX11_within_14 (by decide) ?_
      exact gv_zretR 15 S h rfl dX11_within_15
    · refine gv_iconst 10 S (1 : Int32) dX11_within_10 (by decide) ?_
      refine gv_goto 11 S 15 dX11_within_11 (by decide) ?_
      exact gv_zretR 15 S h rfl dX11_within_15
abbrev rm_X11_isSheet : Room := { frames := 1, cells := 0, slots := 0, locals := 22 }
set_option maxHeartbeats 4000000 in
set_option maxRecDepth 100000 in
theorem c_X11_isSheet (l : Launch) (X : GE) (M : MM) (v0 : Int32) (r : Int32) (h : f_X11_isSheet M v0 = some r) : CTi l yX11_isSheet wsX11_isSheet rm_X11_isSheet X [.int v0] M r M := by
  refine ct_i (own := RX11) (by decide +kernel) rfl rfl (Nat.le_of_ble_eq_true rfl) (lv0 := [(0, .int v0)]) rfl ?_
  intro p e s m args below meth c S
  unfold f_X11_isSheet at h
  refine gv_iload_n 0 S 0 0 dX11_isSheet_0 rfl rfl ?_
  refine gv_iconst 1 S (0 : Int32) dX11_isSheet_1 (by decide) ?_
  refine gv_iconst 2 S (3 : Int32) dX11_isSheet_2 (by decide) ?_
  obtain ⟨r1, hc2, h⟩ := br_some h
  refine gv_cSi 3 S (As := [.int v0, .int (0 : Int32), .int (3 : Int32)]) (rest := []) (c_X11_within l X M v0 (0 : Int32) (3 : Int32) r1 hc2) (va_cwS 3 S.1.2.2.2.2 gX11_isSheet_X11_within rfl rfl rfl (by decide +kernel) ⟨Nat.le_of_ble_eq_true rfl, Nat.le_of_ble_eq_true rfl⟩) rfl rfl (Nat.le_of_ble_eq_true rfl) dX11_isSheet_3 ?_
  exact gv_zretRG 6 S h dX11_isSheet_6
abbrev rm_X11_isSort : Room := { frames := 1, cells := 0, slots := 0, locals := 22 }
set_option maxHeartbeats 4000000 in
set_option maxRecDepth 100000 in
theorem c_X11_isSort (l : Launch) (X : GE) (M : MM) (v0 : Int32) (r : Int32) (h : f_X11_isSort M v0 = some r) : CTi l yX11_isSort wsX11_isSort rm_X11_isSort X [.int v0] M r M := by
  refine ct_i (own := RX11) (by decide +kernel) rfl rfl (Nat.le_of_ble_eq_true rfl) (lv0 := [(0, .int v0)]) rfl ?_
  intro p e s m args below meth c S
  unfold f_X11_isSort at h
  refine gv_iload_n 0 S 0 0 dX11_isSort_0 rfl rfl ?_
  refine gv_iconst 1 S (0 : Int32) dX11_isSort_1 (by decide) ?_
  refine gv_iconst 2 S (2 : Int32) dX11_isSort_2 (by decide) ?_
  obtain ⟨r1, hc2, h⟩ := br_some h
  refine gv_cSi 3 S (As := [.int v0, .int (0 : Int32), .int (2 : Int32)]) (rest := []) (c_X11_within l X M v0 (0 : Int32) (2 : Int32) r1 hc2) (va_cwS 3 S.1.2.2.2.2 gX11_isSort_X11_within rfl rfl rfl (by decide +kernel) ⟨Nat.le_of_ble_eq_true rfl, Nat.le_of_ble_eq_true rfl⟩) rfl rfl (Nat.le_of_ble_eq_true rfl) dX11_isSort_3 ?_
  exact gv_zretRG 6 S h dX11_isSort_6
theorem mi_X11_against_11 : ∀ w ∈ u_ws RX11 TX11 39, w ∈ wsX11_against := by decide +kernel
theorem mf_X11_against_9 : MF wsX11_against RX11 9 10 2 := ⟨RX11, TX11, 39, rfl, by decide, mi_X11_against_11, by decide +kernel⟩
theorem mf_X11_against_13 : MF wsX11_against RX11 13 10 3 := ⟨RX11, TX11, 39, rfl, by decide, mi_X11_against_11, by decide +kernel⟩
abbrev rm_X11_against : Room := { frames := 0, cells := 0, slots := 0, locals := 0 }
set_option maxHeartbeats 4000000 in
set_option maxRecDepth 100000 in
theorem t_X11_against_23 {p : Program} {l : Launch} {e : Env} {s : State} {m : MethodId} {args : Array Value} {below : List Frame} {meth : Method} {c : Code} {X : GE} {M : MM} {r : Int32} (S : CX p s m args meth c cX11_against 5 wsX11_against RX11 (some .int) X) (v1 : Int32) (v3 : Int32) (v4 : Int32) (h : g_X11_against_23 M v1 v3 v4 = some r) : V p l e (headSpec wsX11_against rm_X11_against).room s m args below meth c 5 X (MQ below (gQi X r M) args s 0 0 (gA X)) M 23 [(0, .ref (X.2.2 83)), (1, .int v1), (3, .int v3), (4, .int v4)] [] := by
  unfold g_X11_against_23 at h
  refine gv_aload_n 23 S 0 0 dX11_against_23 rfl rfl ?_
  refine gv_get 24 S (hF_83_sorts X) mf_X11_against_9 dX11_against_24 ?_
  refine gv_iload_n 27 S 1 1 dX11_against_27 rfl rfl ?_
  refine gv_iald 28 S h (hI_84 X) dX11_against_28 (fun h => ?_)
  refine gv_bipush 29 S (-9 : Int32) dX11_against_29 (by decide) ?_
  refine gv_icmp_ne 31 S 36 h dX11_against_31 (by decide) (fun h => ?_) (fun h => ?_)
  · refine gv_iload 36 S 3 dX11_against_36 rfl ?_
    refine gv_if_ge 38 S 43 h dX11_against_38 (by decide) (fun h => ?_) (fun h => ?_)
    · refine gv_iload_n 43 S 3 2 dX11_against_43 rfl rfl ?_
      refine gv_if_lt 44 S 70 h dX11_against_44 (by decide) (fun h => ?_) (fun h => ?_)
      · refine gv_iconst 70 S (3 : Int32) dX11_against_70 (by decide) ?_
        refine gv_goto 71 S 75 dX11_against_71 (by decide) ?_
        exact gv_iretR 75 S h dX11_against_75
      · refine gv_iload_n 47 S 3 2 dX11_against_47 rfl rfl ?_
        refine gv_aload_n 48 S 0 0 dX11_against_48 rfl rfl ?_
        refine gv_get 49 S (hF_83_sheetLong X) mf_X11_against_13 dX11_against_49 ?_
        refine gv_iload_n 52 S 1 1 dX11_against_52 rfl rfl ?_
        refine gv_iald 53 S h (hI_85 X) dX11_against_53 (fun h => ?_)
        refine gv_icmp_gt 54 S 70 h dX11_against_54 (by decide) (fun h => ?_) (fun h => ?_)
        · refine gv_iconst 70 S (3 : Int32) dX11_against_70 (by decide) ?_
          refine gv_goto 71 S 75 dX11_against_71 (by decide) ?_
          exact gv_iretR 75 S h dX11_against_75
        · refine gv_iload 57 S 3 dX11_against_57 rfl ?_
          refine gv_aload_n 59 S 0 0 dX11_against_59 rfl rfl ?_
          refine gv_get 60 S (hF_83_sheetLong X) mf_X11_against_13 dX11_against_60 ?_
          refine gv_iload_n 63 S 1 1 dX11_against_63 rfl rfl ?_
          refine gv_iald 64 S h (hI_85 X) dX11_against_64 (fun h => ?_)
          refine gv_iload_n 65 S 3 2 dX11_against_65 rfl rfl ?_
          refine gv_isub 66 S dX11_against_66 ?_
          refine gv_icmp_le 67 S 74 h dX11_against_67 (by decide) (fun h => ?_) (fun h => ?_)
          · refine gv_iconst 74 S (0 : Int32) dX11_against_74 (by decide) ?_
            exact gv_iretR 75 S h dX11_against_75
          · refine gv_iconst 70 S (3 : Int32) dX11_against_70 (by decide) ?_
            refine gv_goto 71 S 75 dX11_against_71 (by decide) ?_
            exact gv_iretR 75 S h dX11_against_75
    · refine gv_iconst 41 S (4 : Int32) dX11_against_41 (by decide) ?_
      exact gv_iretR 42 S h dX11_against_42
  · refine gv_iconst 34 S (1 : Int32) dX11_against_34 (by decide) ?_
    exact gv_iretR 35 S h dX11_against_35
set_option maxHeartbeats 4000000 in
set_option maxRecDepth 100000 in
theorem c_X11_against (l : Launch) (X : GE) (M : MM) (v1 : Int32) (v2 : Int32) (v3 : Int32) (v4 : Int32) (r : Int32) (h : f_X11_against M v1 v2 v3 v4 = some r) : CTi l yX11_against wsX11_against rm_X11_against X [.ref (X.2.2 83), .int v1, .int v2, .int v3, .int v4] M r M := by
  refine ct_i (own := RX11) (by decide +kernel) rfl rfl (Nat.le_of_ble_eq_true rfl) (lv0 := [(0, .ref (X.2.2 83)), (1, .int v1), (2, .int v2), (3, .int v3), (4, .int v4)]) rfl ?_
  intro p e s m args below meth c S
  unfold f_X11_against at h
  refine gv_aload_n 0 S 0 0 dX11_against_0 rfl rfl ?_
  refine gv_get 1 S (hF_83_sorts X) mf_X11_against_9 dX11_against_1 ?_
  refine gv_iload_n 4 S 1 1 dX11_against_4 rfl rfl ?_
  refine gv_iald 5 S h (hI_84 X) dX11_against_5 (fun h => ?_)
  refine gv_bipush 6 S (-9 : Int32) dX11_against_6 (by decide) ?_
  refine gv_icmp_eq 8 S 23 h dX11_against_8 (by decide) (fun h => ?_) (fun h => ?_)
  · exact gv_sub [0, 1, 3, 4] rfl (t_X11_against_23 S v1 v3 v4 h)
  · refine gv_aload_n 11 S 0 0 dX11_against_11 rfl rfl ?_
    refine gv_get 12 S (hF_83_sorts X) mf_X11_against_9 dX11_against_12 ?_
    refine gv_iload_n 15 S 1 1 dX11_against_15 rfl rfl ?_
    refine gv_iald 16 S h (hI_84 X) dX11_against_16 (fun h => ?_)
    refine gv_iload_n 17 S 2 2 dX11_against_17 rfl rfl ?_
    refine gv_icmp_eq 18 S 23 h dX11_against_18 (by decide) (fun h => ?_) (fun h => ?_)
    · exact gv_sub [0, 1, 3, 4] rfl (t_X11_against_23 S v1 v3 v4 h)
    · refine gv_iconst 21 S (2 : Int32) dX11_against_21 (by decide) ?_
      exact gv_iretR 22 S h dX11_against_22
