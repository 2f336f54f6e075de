theorem mi_X11_lose_11 : ∀ w ∈ u_ws RX11 TX11 39, w ∈ wsX11_lose := by decide +kernel
theorem mf_X11_lose_9 : MF wsX11_lose RX11 9 10 2 := ⟨RX11, TX11, 39, rfl, by decide, mi_X11_lose_11, by decide +kernel⟩
abbrev rm_X11_lose : Room := { frames := 2, cells := 0, slots := 0, locals := 42 }
set_option maxHeartbeats 4000000 in
set_option maxRecDepth 100000 in
theorem t_X11_lose_25 {p : Program} {l : Launch} {e : Env} {s : State} {m : MethodId} {args : Array Value} {below : List Frame} {meth : Method} {c : Code} {X : GE} {r : Int32} {M' : MM} (S : CX p s m args meth c cX11_lose 3 wsX11_lose RX11 (some .int) X) (M : MM) (v1 : Int32) (s0 : Int32) (h : g_X11_lose_25 M v1 s0 = some (r, M')) : V p l e (headSpec wsX11_lose rm_X11_lose).room s m args below meth c 3 X (MQ below (gQi X r M') args s 0 0 (gA X)) M 25 [(0, .ref (X.2.2 83)), (1, .int v1)] [.int s0] := by
  unfold g_X11_lose_25 at h
  refine gv_istore_n 25 S 2 (lv' := [(2, .int s0), (0, .ref (X.2.2 83)), (1, .int v1)]) dX11_lose_25 rfl (Nat.le_of_ble_eq_true rfl) rfl ?_
  refine gv_aload_n 26 S 0 1 dX11_lose_26 rfl rfl ?_
  refine gv_get 27 S (hF_83_sorts X) mf_X11_lose_9 dX11_lose_27 ?_
  refine gv_iload_n 30 S 1 2 dX11_lose_30 rfl rfl ?_
  refine gv_bipush 31 S (-9 : Int32) dX11_lose_31 (by decide) ?_
  refine gv_iast 33 S h (hI_84 X) dX11_lose_33 (fun M3 h => ?_)
  refine gv_iload_n 34 S 2 0 dX11_lose_34 rfl rfl ?_
  exact gv_iret 35 S h dX11_lose_35
set_option maxHeartbeats 4000000 in
set_option maxRecDepth 100000 in
theorem c_X11_lose (l : Launch) (X : GE) (M : MM) (v1 : Int32) (r : Int32) (M' : MM) (h : f_X11_lose M v1 = some (r, M')) : CTi l yX11_lose wsX11_lose rm_X11_lose X [.ref (X.2.2 83), .int v1] M r M' := by
  refine ct_i (own := RX11) (by decide +kernel) rfl rfl (Nat.le_of_ble_eq_true rfl) (lv0 := [(0, .ref (X.2.2 83)), (1, .int v1)]) rfl ?_
  intro p e s m args below meth c S
  unfold f_X11_lose at h
  refine gv_iload_n 0 S 1 1 dX11_lose_0 rfl rfl ?_
  obtain ⟨r1, hc2, h⟩ := br_some h
  refine gv_cSi 1 S (As := [.int v1]) (rest := []) (c_X11_isSheet l X M v1 r1 hc2) (va_cwS 1 S.1.2.2.2.2 gX11_lose_X11_isSheet rfl rfl rfl (by decide +kernel) ⟨Nat.le_of_ble_eq_true rfl, Nat.le_of_ble_eq_true rfl⟩) rfl rfl (Nat.le_of_ble_eq_true rfl) dX11_lose_1 ?_
  refine gv_if_ne 4 S 9 h dX11_lose_4 (by decide) (fun h => ?_) (fun h => ?_)
  · refine gv_aload_n 9 S 0 0 dX11_lose_9 rfl rfl ?_
    refine gv_get 10 S (hF_83_sorts X) mf_X11_lose_9 dX11_lose_10 ?_
    refine gv_iload_n 13 S 1 1 dX11_lose_13 rfl rfl ?_
    refine gv_iald 14 S h (hI_84 X) dX11_lose_14 (fun h => ?_)
    refine gv_bipush 15 S (-9 : Int32) dX11_lose_15 (by decide) ?_
    refine gv_icmp_ne 17 S 24 h dX11_lose_17 (by decide) (fun h => ?_) (fun h => ?_)
    · refine gv_iconst 24 S (1 : Int32) dX11_lose_24 (by decide) ?_
      exact gv_sub [0, 1] rfl (t_X11_lose_25 S M v1 (1 : Int32) h)
    · refine gv_iconst 20 S (0 : Int32) dX11_lose_20 (by decide) ?_
      refine gv_goto 21 S 25 dX11_lose_21 (by decide) ?_
      exact gv_sub [0, 1] rfl (t_X11_lose_25 S M v1 (0 : Int32) h)
  · refine gv_iconst 7 S (-1 : Int32) dX11_lose_7 (by decide) ?_
    exact gv_iret 8 S h dX11_lose_8
theorem mi_X11_put_11 : ∀ w ∈ u_ws RX11 TX11 39, w ∈ wsX11_put := by decide +kernel
theorem mp_X11_put_77 : MP wsX11_put RX11 77 10 0 .int := ⟨RX11, TX11, 39, tyX11, rfl, by decide, mi_X11_put_11, by decide +kernel, tyX11_ok, nmX11, rfl, by decide +kernel⟩
theorem mf_X11_put_9 : MF wsX11_put RX11 9 10 2 := ⟨RX11, TX11, 39, rfl, by decide, mi_X11_put_11, by decide +kernel⟩
theorem mf_X11_put_13 : MF wsX11_put RX11 13 10 3 := ⟨RX11, TX11, 39, rfl, by decide, mi_X11_put_11, by decide +kernel⟩
theorem mf_X11_put_16 : MF wsX11_put RX11 16 10 4 := ⟨RX11, TX11, 39, rfl, by decide, mi_X11_put_11, by decide +kernel⟩
abbrev rm_X11_put : Room := { frames := 2, cells := 0, slots := 0, locals := 42 }
set_option maxHeartbeats 4000000 in
set_option maxRecDepth 100000 in
theorem c_X11_put (l : Launch) (X : GE) (M : MM) (v1 : Int32) (v2 : Int32) (v3 : Int32) (r : Int32) (M' : MM) (h : f_X11_put M v1 v2 v3 = some (r, M')) : CTi l yX11_put wsX11_put rm_X11_put X [.ref (X.2.2 83), .int v1, .int v2, .int v3] M r M' := by
  refine ct_i (own := RX11) (by decide +kernel) rfl rfl (Nat.le_of_ble_eq_true rfl) (lv0 := [(0, .ref (X.2.2 83)), (1, .int v1), (2, .int v2), (3, .int v3)]) rfl ?_
  intro p e s m args below meth c S
  unfold f_X11_put at h
  refine gv_aload_n 0 S 0 0 dX11_put_0 rfl rfl ?_
  refine gv_iconst 1 S (0 : Int32) dX11_put_1 (by decide) ?_
  refine gv_put 2 S h (hP_83_fault X) mp_X11_put_77 rfl rfl dX11_put_2 (fun M1 h => ?_)
  refine gv_iload_n 5 S 1 1 dX11_put_5 rfl rfl ?_
  obtain ⟨r2, hc3, h⟩ := br_some h
  refine gv_cSi 6 S (As := [.int v1]) (rest := []) (c_X11_isSheet l X M1 v1 r2 hc3) (va_cwS 1 S.1.2.2.2.2 gX11_put_X11_isSheet rfl rfl rfl (by decide +kernel) ⟨Nat.le_of_ble_eq_true rfl, Nat.le_of_ble_eq_true rfl⟩) rfl rfl (Nat.le_of_ble_eq_true rfl) dX11_put_6 ?_
  refine gv_if_ne 9 S 14 h dX11_put_9 (by decide) (fun h => ?_) (fun h => ?_)
  · refine gv_aload_n 14 S 0 0 dX11_put_14 rfl rfl ?_
    refine gv_get 15 S (hF_83_sorts X) mf_X11_put_9 dX11_put_15 ?_
    refine gv_iload_n 18 S 1 1 dX11_put_18 rfl rfl ?_
    refine gv_iald 19 S h (hI_84 X) dX11_put_19 (fun h => ?_)
    refine gv_bipush 20 S (-9 : Int32) dX11_put_20 (by decide) ?_
    refine gv_icmp_ne 22 S 31 h dX11_put_22 (by decide) (fun h => ?_) (fun h => ?_)
    · refine gv_iload_n 31 S 2 2 dX11_put_31 rfl rfl ?_
      refine gv_iconst 32 S (0 : Int32) dX11_put_32 (by decide) ?_
      refine gv_aload_n 33 S 0 0 dX11_put_33 rfl rfl ?_
      refine gv_get 34 S (hF_83_sheetLong X) mf_X11_put_13 dX11_put_34 ?_
      refine gv_iload_n 37 S 1 1 dX11_put_37 rfl rfl ?_
      refine gv_iald 38 S h (hI_85 X) dX11_put_38 (fun h => ?_)
      refine gv_iconst 39 S (1 : Int32) dX11_put_39 (by decide) ?_
      refine gv_isub 40 S dX11_put_40 ?_
      obtain ⟨r4, hc5, h⟩ := br_some h
      refine gv_cSi 41 S (As := [.int v2, .int (0 : Int32), .int ((M1 85 v1.toNatClampNeg) - (1 : Int32))]) (rest := []) (c_X11_within l X M1 v2 (0 : Int32) ((M1 85 v1.toNatClampNeg) - (1 : Int32)) r4 hc5) (va_cwS 3 S.1.2.2.2.2 gX11_put_X11_within rfl rfl rfl (by decide +kernel) ⟨Nat.le_of_ble_eq_true rfl, Nat.le_of_ble_eq_true rfl⟩) rfl rfl (Nat.le_of_ble_eq_true rfl) dX11_put_41 ?_
      refine gv_if_ne 44 S 53 h dX11_put_44 (by decide) (fun h => ?_) (fun h => ?_)
      · refine gv_aload_n 53 S 0 0 dX11_put_53 rfl rfl ?_
        refine gv_get 54 S (hF_83_cells X) mf_X11_put_16 dX11_put_54 ?_
        refine gv_bipush 57 S (60 : Int32) dX11_put_57 (by decide) ?_
        refine gv_iload_n 59 S 1 1 dX11_put_59 rfl rfl ?_
        refine gv_imul 60 S dX11_put_60 ?_
        refine gv_iload_n 61 S 2 2 dX11_put_61 rfl rfl ?_
        refine gv_iadd 62 S dX11_put_62 ?_
        refine gv_aload_n 63 S 0 0 dX11_put_63 rfl rfl ?_
        refine gv_get 64 S (hF_83_sorts X) mf_X11_put_9 dX11_put_64 ?_
        refine gv_iload_n 67 S 1 1 dX11_put_67 rfl rfl ?_
        refine gv_iald 68 S h (hI_84 X) dX11_put_68 (fun h => ?_)
        refine gv_if_ne 69 S 77 h dX11_put_69 (by decide) (fun h => ?_) (fun h => ?_)
        · refine gv_aload_n 77 S 0 0 dX11_put_77 rfl rfl ?_
          refine gv_get 78 S (hF_83_sorts X) mf_X11_put_9 dX11_put_78 ?_
          refine gv_iload_n 81 S 1 1 dX11_put_81 rfl rfl ?_
          refine gv_iald 82 S h (hI_84 X) dX11_put_82 (fun h => ?_)
          refine gv_iconst 83 S (1 : Int32) dX11_put_83 (by decide) ?_
          refine gv_icmp_ne 84 S 92 h dX11_put_84 (by decide) (fun h => ?_) (fun h => ?_)
          · refine gv_iload_n 92 S 3 3 dX11_put_92 rfl rfl ?_
            refine gv_iast 93 S h (hI_86 X) dX11_put_93 (fun M6 h => ?_)
            refine gv_iconst 94 S (1 : Int32) dX11_put_94 (by decide) ?_
            exact gv_iret 95 S h dX11_put_95
          · refine gv_iload_n 87 S 3 3 dX11_put_87 rfl rfl ?_
            refine gv_i2s 88 S dX11_put_88 ?_
            refine gv_goto 89 S 93 dX11_put_89 (by decide) ?_
            refine gv_iast 93 S h (hI_86 X) dX11_put_93 (fun M7 h => ?_)
            refine gv_iconst 94 S (1 : Int32) dX11_put_94 (by decide) ?_
            exact gv_iret 95 S h dX11_put_95
        · refine gv_iload_n 72 S 3 3 dX11_put_72 rfl rfl ?_
          refine gv_i2b 73 S dX11_put_73 ?_
          refine gv_goto 74 S 93 dX11_put_74 (by decide) ?_
          refine gv_iast 93 S h (hI_86 X) dX11_put_93 (fun M8 h => ?_)
          refine gv_iconst 94 S (1 : Int32) dX11_put_94 (by decide) ?_
          exact gv_iret 95 S h dX11_put_95
      · refine gv_aload_n 47 S 0 0 dX11_put_47 rfl rfl ?_
        refine gv_iconst 48 S (3 : Int32) dX11_put_48 (by decide) ?_
        obtain ⟨r9, M10, hc11, h⟩ := bi_some h
        refine gv_cVi 49 S (As := [.int (3 : Int32)]) (rest := []) (c_X11_fails l X M1 (3 : Int32) r9 M10 hc11) (hO_83 X) rfl (cwV 1 S.1.2.2.2.2 gX11_put_X11_fails rfl rfl rfl (by decide +kernel) ⟨Nat.le_of_ble_eq_true rfl, Nat.le_of_ble_eq_true rfl⟩) rfl rfl (Nat.le_of_ble_eq_true rfl) dX11_put_49 ?_
        exact gv_iret 52 S h dX11_put_52
    · refine gv_aload_n 25 S 0 0 dX11_put_25 rfl rfl ?_
      refine gv_iconst 26 S (1 : Int32) dX11_put_26 (by decide) ?_
      obtain ⟨r12, M13, hc14, h⟩ := bi_some h
      refine gv_cVi 27 S (As := [.int (1 : Int32)]) (rest := []) (c_X11_fails l X M1 (1 : Int32) r12 M13 hc14) (hO_83 X) rfl (cwV 1 S.1.2.2.2.2 gX11_put_X11_fails rfl rfl rfl (by decide +kernel) ⟨Nat.le_of_ble_eq_true rfl, Nat.le_of_ble_eq_true rfl⟩) rfl rfl (Nat.le_of_ble_eq_true rfl) dX11_put_27 ?_
      exact gv_iret 30 S h dX11_put_30
  · refine gv_iconst 12 S (-1 : Int32) dX11_put_12 (by decide) ?_
    exact gv_iret 13 S h dX11_put_13
theorem mi_X11_cell_11 : ∀ w ∈ u_ws RX11 TX11 39, w ∈ wsX11_cell := by decide +kernel
theorem mp_X11_cell_77 : MP wsX11_cell RX11 77 10 0 .int := ⟨RX11, TX11, 39, tyX11, rfl, by decide, mi_X11_cell_11, by decide +kernel, tyX11_ok, nmX11, rfl, by decide +kernel⟩
theorem mf_X11_cell_9 : MF wsX11_cell RX11 9 10 2 := ⟨RX11, TX11, 39, rfl, by decide, mi_X11_cell_11, by decide +kernel⟩
theorem mf_X11_cell_13 : MF wsX11_cell RX11 13 10 3 := ⟨RX11, TX11, 39, rfl, by decide, mi_X11_cell_11, by decide +kernel⟩
theorem mf_X11_cell_16 : MF wsX11_cell RX11 16 10 4 := ⟨RX11, TX11, 39, rfl, by decide, mi_X11_cell_11, by decide +kernel⟩
abbrev rm_X11_cell : Room := { frames := 2, cells := 0, slots := 0, locals := 42 }
set_option maxHeartbeats 4000000 in
set_option maxRecDepth 100000 in
theorem t_X11_cell_50 {p : Program} {l : Launch} {e : Env} {s : State} {m : MethodId} {args : Array Value} {below : List Frame} {meth : Method} {c : Code} {X : GE} {r : Int64} {M' : MM} (S : CX p s m args meth c cX11_cell 4 wsX11_cell RX11 (some .long) X) (M : MM) (v1 : Int32) (v2 : Int32) (h : g_X11_cell_50 M v1 v2 = some (r, M')) : V p l e (headSpec wsX11_cell rm_X11_cell).room s m args below meth c 4 X (MQ below (gQl X r M') args s 0 0 (gA X)) M 50 [(0, .ref (X.2.2 83)), (1, .int v1), (2, .int v2)] [] := by
  unfold g_X11_cell_50 at h
  refine gv_aload_n 50 S 0 0 dX11_cell_50 rfl rfl ?_
  refine gv_get 51 S (hF_83_sorts X) mf_X11_cell_9 dX11_cell_51 ?_
  refine gv_iload_n 54 S 1 1 dX11_cell_54 rfl rfl ?_
  refine gv_iald 55 S h (hI_84 X) dX11_cell_55 (fun h => ?_)
  refine gv_bipush 56 S (-9 : Int32) dX11_cell_56 (by decide) ?_
  refine gv_icmp_ne 58 S 67 h dX11_cell_58 (by decide) (fun h => ?_) (fun h => ?_)
  · refine gv_iload_n 67 S 2 2 dX11_cell_67 rfl rfl ?_
    refine gv_iconst 68 S (0 : Int32) dX11_cell_68 (by decide) ?_
    refine gv_aload_n 69 S 0 0 dX11_cell_69 rfl rfl ?_
    refine gv_get 70 S (hF_83_sheetLong X) mf_X11_cell_13 dX11_cell_70 ?_
    refine gv_iload_n 73 S 1 1 dX11_cell_73 rfl rfl ?_
    refine gv_iald 74 S h (hI_85 X) dX11_cell_74 (fun h => ?_)
    refine gv_iconst 75 S (1 : Int32) dX11_cell_75 (by decide) ?_
    refine gv_isub 76 S dX11_cell_76 ?_
    obtain ⟨r9, hc10, h⟩ := br_some h
    refine gv_cSi 77 S (As := [.int v2, .int (0 : Int32), .int ((M 85 v1.toNatClampNeg) - (1 : Int32))]) (rest := []) (c_X11_within l X M v2 (0 : Int32) ((M 85 v1.toNatClampNeg) - (1 : Int32)) r9 hc10) (va_cwS 3 S.1.2.2.2.2 gX11_cell_X11_within rfl rfl rfl (by decide +kernel) ⟨Nat.le_of_ble_eq_true rfl, Nat.le_of_ble_eq_true rfl⟩) rfl rfl (Nat.le_of_ble_eq_true rfl) dX11_cell_77 ?_
    refine gv_if_ne 80 S 89 h dX11_cell_80 (by decide) (fun h => ?_) (fun h => ?_)
    · refine gv_aload_n 89 S 0 0 dX11_cell_89 rfl rfl ?_
      refine gv_get 90 S (hF_83_cells X) mf_X11_cell_16 dX11_cell_90 ?_
      refine gv_bipush 93 S (60 : Int32) dX11_cell_93 (by decide) ?_
      refine gv_iload_n 95 S 1 1 dX11_cell_95 rfl rfl ?_
      refine gv_imul 96 S dX11_cell_96 ?_
      refine gv_iload_n 97 S 2 2 dX11_cell_97 rfl rfl ?_
      refine gv_iadd 98 S dX11_cell_98 ?_
      refine gv_iald 99 S h (hI_86 X) dX11_cell_99 (fun h => ?_)
      refine gv_i2l 100 S dX11_cell_100 ?_
      exact gv_lret 101 S h dX11_cell_101
    · refine gv_aload_n 83 S 0 0 dX11_cell_83 rfl rfl ?_
      refine gv_iconst 84 S (3 : Int32) dX11_cell_84 (by decide) ?_
      obtain ⟨r11, M12, hc13, h⟩ := bl_some h
      refine gv_cVl 85 S (As := [.int (3 : Int32)]) (rest := []) (c_X11_lost l X M (3 : Int32) r11 M12 hc13) (hO_83 X) rfl (cwV 1 S.1.2.2.2.2 gX11_cell_X11_lost rfl rfl rfl (by decide +kernel) ⟨Nat.le_of_ble_eq_true rfl, Nat.le_of_ble_eq_true rfl⟩) rfl rfl (Nat.le_of_ble_eq_true rfl) dX11_cell_85 ?_
      exact gv_lret 88 S h dX11_cell_88
  · refine gv_aload_n 61 S 0 0 dX11_cell_61 rfl rfl ?_
    refine gv_iconst 62 S (1 : Int32) dX11_cell_62 (by decide) ?_
    obtain ⟨r14, M15, hc16, h⟩ := bl_some h
    refine gv_cVl 63 S (As := [.int (1 : Int32)]) (rest := []) (c_X11_lost l X M (1 : Int32) r14 M15 hc16) (hO_83 X) rfl (cwV 1 S.1.2.2.2.2 gX11_cell_X11_lost rfl rfl rfl (by decide +kernel) ⟨Nat.le_of_ble_eq_true rfl, Nat.le_of_ble_eq_true rfl⟩) rfl rfl (Nat.le_of_ble_eq_true rfl) dX11_cell_63 ?_
    exact gv_lret 66 S h dX11_cell_66
set_option maxHeartbeats 4000000 in
set_option maxRecDepth 100000 in
theorem c_X11_cell (l : Launch) (X : GE) (M : MM) (v1 : Int32) (v2 : Int32) (v3 : Int32) (r : Int64) (M' : MM) (h : f_X11_cell M v1 v2 v3 = some (r, M')) : CTl l yX11_cell wsX11_cell rm_X11_cell X [.ref (X.2.2 83), .int v1, .int v2, .int v3] M r M' := by
  refine ct_l (own := RX11) (by decide +kernel) rfl rfl (Nat.le_of_ble_eq_true rfl) (lv0 := [(0, .ref (X.2.2 83)), (1, .int v1), (2, .int v2), (3, .int v3)]) rfl ?_
  intro p e s m args below meth c S
  unfold f_X11_cell at h
  refine gv_aload_n 0 S 0 0 dX11_cell_0 rfl rfl ?_
  refine gv_iconst 1 S (0 : Int32) dX11_cell_1 (by decide) ?_
  refine gv_put 2 S h (hP_83_fault X) mp_X11_cell_77 rfl rfl dX11_cell_2 (fun M1 h => ?_)
  refine gv_iload_n 5 S 1 1 dX11_cell_5 rfl rfl ?_
  obtain ⟨r2, hc3, h⟩ := br_some h
  refine gv_cSi 6 S (As := [.int v1]) (rest := []) (c_X11_isSheet l X M1 v1 r2 hc3) (va_cwS 1 S.1.2.2.2.2 gX11_cell_X11_isSheet rfl rfl rfl (by decide +kernel) ⟨Nat.le_of_ble_eq_true rfl, Nat.le_of_ble_eq_true rfl⟩) rfl rfl (Nat.le_of_ble_eq_true rfl) dX11_cell_6 ?_
  refine gv_if_eq 9 S 19 h dX11_cell_9 (by decide) (fun h => ?_) (fun h => ?_)
  · refine gv_ldc2 19 S (v := (-9223372036854775808 : Int64)) (by decide +kernel) dX11_cell_19 ?_
    exact gv_lret 22 S h dX11_cell_22
  · refine gv_iload_n 12 S 3 3 dX11_cell_12 rfl rfl ?_
    obtain ⟨r4, hc5, h⟩ := br_some h
    refine gv_cSi 13 S (As := [.int v3]) (rest := []) (c_X11_isSort l X M1 v3 r4 hc5) (va_cwS 1 S.1.2.2.2.2 gX11_cell_X11_isSort rfl rfl rfl (by decide +kernel) ⟨Nat.le_of_ble_eq_true rfl, Nat.le_of_ble_eq_true rfl⟩) rfl rfl (Nat.le_of_ble_eq_true rfl) dX11_cell_13 ?_
    refine gv_if_ne 16 S 23 h dX11_cell_16 (by decide) (fun h => ?_) (fun h => ?_)
    · refine gv_aload_n 23 S 0 0 dX11_cell_23 rfl rfl ?_
      refine gv_get 24 S (hF_83_sorts X) mf_X11_cell_9 dX11_cell_24 ?_
      refine gv_iload_n 27 S 1 1 dX11_cell_27 rfl rfl ?_
      refine gv_iald 28 S h (hI_84 X) dX11_cell_28 (fun h => ?_)
      refine gv_bipush 29 S (-9 : Int32) dX11_cell_29 (by decide) ?_
      refine gv_icmp_eq 31 S 50 h dX11_cell_31 (by decide) (fun h => ?_) (fun h => ?_)
      · exact gv_sub [0, 1, 2] rfl (t_X11_cell_50 S M1 v1 v2 h)
      · refine gv_aload_n 34 S 0 0 dX11_cell_34 rfl rfl ?_
        refine gv_get 35 S (hF_83_sorts X) mf_X11_cell_9 dX11_cell_35 ?_
        refine gv_iload_n 38 S 1 1 dX11_cell_38 rfl rfl ?_
        refine gv_iald 39 S h (hI_84 X) dX11_cell_39 (fun h => ?_)
        refine gv_iload_n 40 S 3 3 dX11_cell_40 rfl rfl ?_
        refine gv_icmp_eq 41 S 50 h dX11_cell_41 (by decide) (fun h => ?_) (fun h => ?_)
        · exact gv_sub [0, 1, 2] rfl (t_X11_cell_50 S M1 v1 v2 h)
        · refine gv_aload_n 44 S 0 0 dX11_cell_44 rfl rfl ?_
          refine gv_iconst 45 S (2 : Int32) dX11_cell_45 (by decide) ?_
          obtain ⟨r6, M7, hc8, h⟩ := bl_some h
          refine gv_cVl 46 S (As := [.int (2 : Int32)]) (rest := []) (c_X11_lost l X M1 (2 : Int32) r6 M7 hc8) (hO_83 X) rfl (cwV 1 S.1.2.2.2.2 gX11_cell_X11_lost rfl rfl rfl (by decide +kernel) ⟨Nat.le_of_ble_eq_true rfl, Nat.le_of_ble_eq_true rfl⟩) rfl rfl (Nat.le_of_ble_eq_true rfl) dX11_cell_46 ?_
          exact gv_lret 49 S h dX11_cell_49
    · refine gv_ldc2 19 S (v := (-9223372036854775808 : Int64)) (by decide +kernel) dX11_cell_19 ?_
      exact gv_lret 22 S h dX11_cell_22
theorem mi_X11_copy_11 : ∀ w ∈ u_ws RX11 TX11 39, w ∈ wsX11_copy := by decide +kernel
theorem mp_X11_copy_77 : MP wsX11_copy RX11 77 10 0 .int := ⟨RX11, TX11, 39, tyX11, rfl, by decide, mi_X11_copy_11, by decide +kernel, tyX11_ok, nmX11, rfl, by decide +kernel⟩
theorem mf_X11_copy_9 : MF wsX11_copy RX11 9 10 2 := ⟨RX11, TX11, 39, rfl, by decide, mi_X11_copy_11, by decide +kernel⟩
theorem mf_X11_copy_13 : MF wsX11_copy RX11 13 10 3 := ⟨RX11, TX11, 39, rfl, by decide, mi_X11_copy_11, by decide +kernel⟩
theorem mf_X11_copy_16 : MF wsX11_copy RX11 16 10 4 := ⟨RX11, TX11, 39, rfl, by decide, mi_X11_copy_11, by decide +kernel⟩
abbrev rm_X11_copy : Room := { frames := 2, cells := 0, slots := 0, locals := 42 }
set_option maxHeartbeats 4000000 in
set_option maxRecDepth 100000 in
theorem t_X11_copy_190 {p : Program} {l : Launch} {e : Env} {s : State} {m : MethodId} {args : Array Value} {below : List Frame} {meth : Method} {c : Code} {X : GE} {r : Int32} {M' : MM} (S : CX p s m args meth c cX11_copy 10 wsX11_copy RX11 (some .int) X) (rec166 : MM → Int32 → Int32 → Int32 → Int32 → Int32 → Int32 → Int32 → Option (Int32 × MM)) (hrec166 : ∀ (M : MM) (v1 : Int32) (v2 : Int32) (v3 : Int32) (v4 : Int32) (v5 : Int32) (v7 : Int32) (v8 : Int32), rec166 M v1 v2 v3 v4 v5 v7 v8 = some (r, M') → V p l e (headSpec wsX11_copy rm_X11_copy).room s m args below meth c 10 X (MQ below (gQi X r M') args s 0 0 (gA X)) M 166 [(0, .ref (X.2.2 83)), (1, .int v1), (2, .int v2), (3, .int v3), (4, .int v4), (5, .int v5), (7, .int v7), (8, .int v8)] []) (M : MM) (v1 : Int32) (v2 : Int32) (v3 : Int32) (v4 : Int32) (v5 : Int32) (v7 : Int32) (v8 : Int32) (s0 : Int32) (h : g_X11_copy_190 rec166 M v1 v2 v3 v4 v5 v7 v8 s0 = some (r, M')) : V p l e (headSpec wsX11_copy rm_X11_copy).room s m args below meth c 10 X (MQ below (gQi X r M') args s 0 0 (gA X)) M 190 [(0, .ref (X.2.2 83)), (1, .int v1), (2, .int v2), (3, .int v3), (4, .int v4), (5, .int v5), (7, .int v7), (8, .int v8)] [.int s0] := by
  unfold g_X11_copy_190 at h
  refine gv_istore 190 S (lv' := [(9, .int s0), (0, .ref (X.2.2 83)), (1, .int v1), (2, .int v2), (3, .int v3), (4, .int v4), (5, .int v5), (7, .int v7), (8, .int v8)]) dX11_copy_190 (Nat.le_of_ble_eq_true rfl) rfl ?_
  refine gv_aload_n 192 S 0 1 dX11_copy_192 rfl rfl ?_
  refine gv_get 193 S (hF_83_cells X) mf_X11_copy_16 dX11_copy_193 ?_
  refine gv_bipush 196 S (60 : Int32) dX11_copy_196 (by decide) ?_
  refine gv_iload_n 198 S 3 4 dX11_copy_198 rfl rfl ?_
  refine gv_imul 199 S dX11_copy_199 ?_
  refine gv_iload 200 S 5 dX11_copy_200 rfl ?_
  refine gv_iadd 202 S dX11_copy_202 ?_
  refine gv_iload 203 S 0 dX11_copy_203 rfl ?_
  refine gv_iadd 205 S dX11_copy_205 ?_
  refine gv_aload_n 206 S 0 1 dX11_copy_206 rfl rfl ?_
  refine gv_get 207 S (hF_83_cells X) mf_X11_copy_16 dX11_copy_207 ?_
  refine gv_bipush 210 S (60 : Int32) dX11_copy_210 (by decide) ?_
  refine gv_iload_n 212 S 1 2 dX11_copy_212 rfl rfl ?_
  refine gv_imul 213 S dX11_copy_213 ?_
  refine gv_iload_n 214 S 2 3 dX11_copy_214 rfl rfl ?_
  refine gv_iadd 215 S dX11_copy_215 ?_
  refine gv_iload 216 S 0 dX11_copy_216 rfl ?_
  refine gv_iadd 218 S dX11_copy_218 ?_
  refine gv_iald 219 S h (hI_86 X) dX11_copy_219 (fun h => ?_)
  refine gv_iast 220 S h (hI_86 X) dX11_copy_220 (fun M24 h => ?_)
  refine gv_iinc 221 S 8 (v8 + (1 : Int32)) (lv' := [(8, .int (v8 + (1 : Int32))), (9, .int s0), (0, .ref (X.2.2 83)), (1, .int v1), (2, .int v2), (3, .int v3), (4, .int v4), (5, .int v5), (7, .int v7)]) dX11_copy_221 rfl rfl (Nat.le_of_ble_eq_true rfl) rfl ?_
  refine gv_goto 224 S 166 dX11_copy_224 (by decide) ?_
  exact gv_sub [2, 3, 4, 5, 6, 7, 8, 0] rfl (hrec166 M24 v1 v2 v3 v4 v5 v7 (v8 + (1 : Int32)) h)
set_option maxHeartbeats 4000000 in
set_option maxRecDepth 100000 in
theorem t_X11_copy_166 {p : Program} {l : Launch} {e : Env} {s : State} {m : MethodId} {args : Array Value} {below : List Frame} {meth : Method} {c : Code} {X : GE} {r : Int32} {M' : MM} (S : CX p s m args meth c cX11_copy 10 wsX11_copy RX11 (some .int) X) : ∀ (n : Nat) (M : MM) (v1 : Int32) (v2 : Int32) (v3 : Int32) (v4 : Int32) (v5 : Int32) (v7 : Int32) (v8 : Int32) (h : g_X11_copy_166 n M v1 v2 v3 v4 v5 v7 v8 = some (r, M')), V p l e (headSpec wsX11_copy rm_X11_copy).room s m args below meth c 10 X (MQ below (gQi X r M') args s 0 0 (gA X)) M 166 [(0, .ref (X.2.2 83)), (1, .int v1), (2, .int v2), (3, .int v3), (4, .int v4), (5, .int v5), (7, .int v7), (8, .int v8)] [] := by
  intro n
  induction n with
  | zero =>
    intro M v1 v2 v3 v4 v5 v7 v8 h
    rw [g_X11_copy_166] at h
    cases h
  | succ n ih =>
    intro M v1 v2 v3 v4 v5 v7 v8 h
    rw [g_X11_copy_166] at h
    refine gv_iload 166 S 7 dX11_copy_166 rfl ?_
    refine gv_iload 168 S 5 dX11_copy_168 rfl ?_
    refine gv_icmp_ge 170 S 227 h dX11_copy_170 (by decide) (fun h => ?_) (fun h => ?_)
    · refine gv_iload 227 S 5 dX11_copy_227 rfl ?_
      exact gv_iret 229 S h dX11_copy_229
    · refine gv_iload 173 S 6 dX11_copy_173 rfl ?_
      refine gv_if_eq 175 S 188 h dX11_copy_175 (by decide) (fun h => ?_) (fun h => ?_)
      · refine gv_iload 188 S 7 dX11_copy_188 rfl ?_
        exact gv_sub [0, 1, 2, 3, 4, 5, 6, 7] rfl (t_X11_copy_190 S (g_X11_copy_166 n) ih M v1 v2 v3 v4 v5 v7 v8 v8 h)
      · refine gv_iload 178 S 5 dX11_copy_178 rfl ?_
        refine gv_iconst 180 S (1 : Int32) dX11_copy_180 (by decide) ?_
        refine gv_isub 181 S dX11_copy_181 ?_
        refine gv_iload 182 S 7 dX11_copy_182 rfl ?_
        refine gv_isub 184 S dX11_copy_184 ?_
        refine gv_goto 185 S 190 dX11_copy_185 (by decide) ?_
        exact gv_sub [0, 1, 2, 3, 4, 5, 6, 7] rfl (t_X11_copy_190 S (g_X11_copy_166 n) ih M v1 v2 v3 v4 v5 v7 v8 ((v5 - (1 : Int32)) - v8) h)
set_option maxHeartbeats 4000000 in
set_option maxRecDepth 100000 in
theorem t_X11_copy_110 {p : Program} {l : Launch} {e : Env} {s : State} {m : MethodId} {args : Array Value} {below : List Frame} {meth : Method} {c : Code} {X : GE} {r : Int32} {M' : MM} (S : CX p s m args meth c cX11_copy 10 wsX11_copy RX11 (some .int) X) (M : MM) (v1 : Int32) (v2 : Int32) (v3 : Int32) (v4 : Int32) (v5 : Int32) (s0 : Int32) (h : g_X11_copy_110 M v1 v2 v3 v4 v5 s0 = some (r, M')) : V p l e (headSpec wsX11_copy rm_X11_copy).room s m args below meth c 10 X (MQ below (gQi X r M') args s 0 0 (gA X)) M 110 [(0, .ref (X.2.2 83)), (1, .int v1), (2, .int v2), (3, .int v3), (4, .int v4), (5, .int v5)] [.int s0] := by
  unfold g_X11_copy_110 at h
  refine gv_istore 110 S (lv' := [(6, .int s0), (0, .ref (X.2.2 83)), (1, .int v1), (2, .int v2), (3, .int v3), (4, .int v4), (5, .int v5)]) dX11_copy_110 (Nat.le_of_ble_eq_true rfl) rfl ?_
  refine gv_iload 112 S 0 dX11_copy_112 rfl ?_
  refine gv_if_eq 114 S 144 h dX11_copy_114 (by decide) (fun h => ?_) (fun h => ?_)
  · refine gv_aload_n 144 S 0 1 dX11_copy_144 rfl rfl ?_
    refine gv_iconst 145 S (3 : Int32) dX11_copy_145 (by decide) ?_
    obtain ⟨r15, M16, hc17, h⟩ := bi_some h
    refine gv_cVi 146 S (As := [.int (3 : Int32)]) (rest := []) (c_X11_fails l X M (3 : Int32) r15 M16 hc17) (hO_83 X) rfl (cwV 1 S.1.2.2.2.2 gX11_copy_X11_fails rfl rfl rfl (by decide +kernel) ⟨Nat.le_of_ble_eq_true rfl, Nat.le_of_ble_eq_true rfl⟩) rfl rfl (Nat.le_of_ble_eq_true rfl) dX11_copy_146 ?_
    exact gv_iret 149 S h dX11_copy_149
  · refine gv_iload 117 S 6 dX11_copy_117 rfl ?_
    refine gv_aload_n 119 S 0 1 dX11_copy_119 rfl rfl ?_
    refine gv_get 120 S (hF_83_sheetLong X) mf_X11_copy_13 dX11_copy_120 ?_
    refine gv_iload_n 123 S 1 2 dX11_copy_123 rfl rfl ?_
    refine gv_iald 124 S h (hI_85 X) dX11_copy_124 (fun h => ?_)
    refine gv_iload_n 125 S 2 3 dX11_copy_125 rfl rfl ?_
    refine gv_isub 126 S dX11_copy_126 ?_
    refine gv_icmp_gt 127 S 144 h dX11_copy_127 (by decide) (fun h => ?_) (fun h => ?_)
    · refine gv_aload_n 144 S 0 1 dX11_copy_144 rfl rfl ?_
      refine gv_iconst 145 S (3 : Int32) dX11_copy_145 (by decide) ?_
      obtain ⟨r18, M19, hc20, h⟩ := bi_some h
      refine gv_cVi 146 S (As := [.int (3 : Int32)]) (rest := []) (c_X11_fails l X M (3 : Int32) r18 M19 hc20) (hO_83 X) rfl (cwV 1 S.1.2.2.2.2 gX11_copy_X11_fails rfl rfl rfl (by decide +kernel) ⟨Nat.le_of_ble_eq_true rfl, Nat.le_of_ble_eq_true rfl⟩) rfl rfl (Nat.le_of_ble_eq_true rfl) dX11_copy_146 ?_
      exact gv_iret 149 S h dX11_copy_149
    · refine gv_iload 130 S 6 dX11_copy_130 rfl ?_
      refine gv_aload_n 132 S 0 1 dX11_copy_132 rfl rfl ?_
      refine gv_get 133 S (hF_83_sheetLong X) mf_X11_copy_13 dX11_copy_133 ?_
      refine gv_iload_n 136 S 3 4 dX11_copy_136 rfl rfl ?_
      refine gv_iald 137 S h (hI_85 X) dX11_copy_137 (fun h => ?_)
      refine gv_iload 138 S 5 dX11_copy_138 rfl ?_
      refine gv_isub 140 S dX11_copy_140 ?_
      refine gv_icmp_le 141 S 150 h dX11_copy_141 (by decide) (fun h => ?_) (fun h => ?_)
      · refine gv_iload_n 150 S 2 3 dX11_copy_150 rfl rfl ?_
        refine gv_iload 151 S 5 dX11_copy_151 rfl ?_
        refine gv_icmp_ge 153 S 160 h dX11_copy_153 (by decide) (fun h => ?_) (fun h => ?_)
        · refine gv_iconst 160 S (0 : Int32) dX11_copy_160 (by decide) ?_
          refine gv_istore 161 S (lv' := [(7, .int (0 : Int32)), (6, .int s0), (0, .ref (X.2.2 83)), (1, .int v1), (2, .int v2), (3, .int v3), (4, .int v4), (5, .int v5)]) dX11_copy_161 (Nat.le_of_ble_eq_true rfl) rfl ?_
          refine gv_iconst 163 S (0 : Int32) dX11_copy_163 (by decide) ?_
          refine gv_istore 164 S (lv' := [(8, .int (0 : Int32)), (7, .int (0 : Int32)), (6, .int s0), (0, .ref (X.2.2 83)), (1, .int v1), (2, .int v2), (3, .int v3), (4, .int v4), (5, .int v5)]) dX11_copy_164 (Nat.le_of_ble_eq_true rfl) rfl ?_
          exact gv_sub [3, 4, 5, 6, 7, 8, 1, 0] rfl (t_X11_copy_166 S FU M v1 v2 v3 v4 v5 (0 : Int32) (0 : Int32) h)
        · refine gv_iconst 156 S (1 : Int32) dX11_copy_156 (by decide) ?_
          refine gv_goto 157 S 161 dX11_copy_157 (by decide) ?_
          refine gv_istore 161 S (lv' := [(7, .int (1 : Int32)), (6, .int s0), (0, .ref (X.2.2 83)), (1, .int v1), (2, .int v2), (3, .int v3), (4, .int v4), (5, .int v5)]) dX11_copy_161 (Nat.le_of_ble_eq_true rfl) rfl ?_
          refine gv_iconst 163 S (0 : Int32) dX11_copy_163 (by decide) ?_
          refine gv_istore 164 S (lv' := [(8, .int (0 : Int32)), (7, .int (1 : Int32)), (6, .int s0), (0, .ref (X.2.2 83)), (1, .int v1), (2, .int v2), (3, .int v3), (4, .int v4), (5, .int v5)]) dX11_copy_164 (Nat.le_of_ble_eq_true rfl) rfl ?_
          exact gv_sub [3, 4, 5, 6, 7, 8, 1, 0] rfl (t_X11_copy_166 S FU M v1 v2 v3 v4 v5 (1 : Int32) (0 : Int32) h)
      · refine gv_aload_n 144 S 0 1 dX11_copy_144 rfl rfl ?_
        refine gv_iconst 145 S (3 : Int32) dX11_copy_145 (by decide) ?_
        obtain ⟨r21, M22, hc23, h⟩ := bi_some h
        refine gv_cVi 146 S (As := [.int (3 : Int32)]) (rest := []) (c_X11_fails l X M (3 : Int32) r21 M22 hc23) (hO_83 X) rfl (cwV 1 S.1.2.2.2.2 gX11_copy_X11_fails rfl rfl rfl (by decide +kernel) ⟨Nat.le_of_ble_eq_true rfl, Nat.le_of_ble_eq_true rfl⟩) rfl rfl (Nat.le_of_ble_eq_true rfl) dX11_copy_146 ?_
        exact gv_iret 149 S h dX11_copy_149
set_option maxHeartbeats 4000000 in
set_option maxRecDepth 100000 in
theorem c_X11_copy (l : Launch) (X : GE) (M : MM) (v1 : Int32) (v2 : Int32) (v3 : Int32) (v4 : Int32) (v5 : Int32) (r : Int32) (M' : MM) (h : f_X11_copy M v1 v2 v3 v4 v5 = some (r, M')) : CTi l yX11_copy wsX11_copy rm_X11_copy X [.ref (X.2.2 83), .int v1, .int v2, .int v3, .int v4, .int v5] M r M' := by
  refine ct_i (own := RX11) (by decide +kernel) rfl rfl (Nat.le_of_ble_eq_true rfl) (lv0 := [(0, .ref (X.2.2 83)), (1, .int v1), (2, .int v2), (3, .int v3), (4, .int v4), (5, .int v5)]) rfl ?_
  intro p e s m args below meth c S
  unfold f_X11_copy at h
  refine gv_aload_n 0 S 0 0 dX11_copy_0 rfl rfl ?_
  refine gv_iconst 1 S (0 : Int32) dX11_copy_1 (by decide) ?_
  refine gv_put 2 S h (hP_83_fault X) mp_X11_copy_77 rfl rfl dX11_copy_2 (fun M1 h => ?_)
  refine gv_iload_n 5 S 1 1 dX11_copy_5 rfl rfl ?_
  obtain ⟨r2, hc3, h⟩ := br_some h
  refine gv_cSi 6 S (As := [.int v1]) (rest := []) (c_X11_isSheet l X M1 v1 r2 hc3) (va_cwS 1 S.1.2.2.2.2 gX11_copy_X11_isSheet rfl rfl rfl (by decide +kernel) ⟨Nat.le_of_ble_eq_true rfl, Nat.le_of_ble_eq_true rfl⟩) rfl rfl (Nat.le_of_ble_eq_true rfl) dX11_copy_6 ?_
  refine gv_if_eq 9 S 19 h dX11_copy_9 (by decide) (fun h => ?_) (fun h => ?_)
  · refine gv_iconst 19 S (-1 : Int32) dX11_copy_19 (by decide) ?_
    exact gv_iret 20 S h dX11_copy_20
  · refine gv_iload_n 12 S 3 3 dX11_copy_12 rfl rfl ?_
    obtain ⟨r4, hc5, h⟩ := br_some h
    refine gv_cSi 13 S (As := [.int v3]) (rest := []) (c_X11_isSheet l X M1 v3 r4 hc5) (va_cwS 1 S.1.2.2.2.2 gX11_copy_X11_isSheet rfl rfl rfl (by decide +kernel) ⟨Nat.le_of_ble_eq_true rfl, Nat.le_of_ble_eq_true rfl⟩) rfl rfl (Nat.le_of_ble_eq_true rfl) dX11_copy_13 ?_
    refine gv_if_ne 16 S 21 h dX11_copy_16 (by decide) (fun h => ?_) (fun h => ?_)
    · refine gv_aload_n 21 S 0 0 dX11_copy_21 rfl rfl ?_
      refine gv_get 22 S (hF_83_sorts X) mf_X11_copy_9 dX11_copy_22 ?_
      refine gv_iload_n 25 S 1 1 dX11_copy_25 rfl rfl ?_
      refine gv_iald 26 S h (hI_84 X) dX11_copy_26 (fun h => ?_)
      refine gv_bipush 27 S (-9 : Int32) dX11_copy_27 (by decide) ?_
      refine gv_icmp_eq 29 S 43 h dX11_copy_29 (by decide) (fun h => ?_) (fun h => ?_)
      · refine gv_aload_n 43 S 0 0 dX11_copy_43 rfl rfl ?_
        refine gv_iconst 44 S (1 : Int32) dX11_copy_44 (by decide) ?_
        obtain ⟨r6, M7, hc8, h⟩ := bi_some h
        refine gv_cVi 45 S (As := [.int (1 : Int32)]) (rest := []) (c_X11_fails l X M1 (1 : Int32) r6 M7 hc8) (hO_83 X) rfl (cwV 1 S.1.2.2.2.2 gX11_copy_X11_fails rfl rfl rfl (by decide +kernel) ⟨Nat.le_of_ble_eq_true rfl, Nat.le_of_ble_eq_true rfl⟩) rfl rfl (Nat.le_of_ble_eq_true rfl) dX11_copy_45 ?_
        exact gv_iret 48 S h dX11_copy_48
      · refine gv_aload_n 32 S 0 0 dX11_copy_32 rfl rfl ?_
        refine gv_get 33 S (hF_83_sorts X) mf_X11_copy_9 dX11_copy_33 ?_
        refine gv_iload_n 36 S 3 3 dX11_copy_36 rfl rfl ?_
        refine gv_iald 37 S h (hI_84 X) dX11_copy_37 (fun h => ?_)
        refine gv_bipush 38 S (-9 : Int32) dX11_copy_38 (by decide) ?_
        refine gv_icmp_ne 40 S 49 h dX11_copy_40 (by decide) (fun h => ?_) (fun h => ?_)
        · refine gv_aload_n 49 S 0 0 dX11_copy_49 rfl rfl ?_
          refine gv_get 50 S (hF_83_sorts X) mf_X11_copy_9 dX11_copy_50 ?_
          refine gv_iload_n 53 S 1 1 dX11_copy_53 rfl rfl ?_
          refine gv_iald 54 S h (hI_84 X) dX11_copy_54 (fun h => ?_)
          refine gv_aload_n 55 S 0 0 dX11_copy_55 rfl rfl ?_
          refine gv_get 56 S (hF_83_sorts X) mf_X11_copy_9 dX11_copy_56 ?_
          refine gv_iload_n 59 S 3 3 dX11_copy_59 rfl rfl ?_
          refine gv_iald 60 S h (hI_84 X) dX11_copy_60 (fun h => ?_)
          refine gv_icmp_eq 61 S 70 h dX11_copy_61 (by decide) (fun h => ?_) (fun h => ?_)
          · refine gv_iload_n 70 S 2 2 dX11_copy_70 rfl rfl ?_
            refine gv_if_lt 71 S 109 h dX11_copy_71 (by decide) (fun h => ?_) (fun h => ?_)
            · refine gv_iconst 109 S (0 : Int32) dX11_copy_109 (by decide) ?_
              exact gv_sub [0, 1, 2, 3, 4, 5] rfl (t_X11_copy_110 S M1 v1 v2 v3 v4 v5 (0 : Int32) h)
            · refine gv_iload 74 S 4 dX11_copy_74 rfl ?_
              refine gv_if_lt 76 S 109 h dX11_copy_76 (by decide) (fun h => ?_) (fun h => ?_)
              · refine gv_iconst 109 S (0 : Int32) dX11_copy_109 (by decide) ?_
                exact gv_sub [0, 1, 2, 3, 4, 5] rfl (t_X11_copy_110 S M1 v1 v2 v3 v4 v5 (0 : Int32) h)
              · refine gv_iload 79 S 5 dX11_copy_79 rfl ?_
                refine gv_if_lt 81 S 109 h dX11_copy_81 (by decide) (fun h => ?_) (fun h => ?_)
                · refine gv_iconst 109 S (0 : Int32) dX11_copy_109 (by decide) ?_
                  exact gv_sub [0, 1, 2, 3, 4, 5] rfl (t_X11_copy_110 S M1 v1 v2 v3 v4 v5 (0 : Int32) h)
                · refine gv_iload_n 84 S 2 2 dX11_copy_84 rfl rfl ?_
                  refine gv_aload_n 85 S 0 0 dX11_copy_85 rfl rfl ?_
                  refine gv_get 86 S (hF_83_sheetLong X) mf_X11_copy_13 dX11_copy_86 ?_
                  refine gv_iload_n 89 S 1 1 dX11_copy_89 rfl rfl ?_
                  refine gv_iald 90 S h (hI_85 X) dX11_copy_90 (fun h => ?_)
                  refine gv_icmp_gt 91 S 109 h dX11_copy_91 (by decide) (fun h => ?_) (fun h => ?_)
                  · refine gv_iconst 109 S (0 : Int32) dX11_copy_109 (by decide) ?_
                    exact gv_sub [0, 1, 2, 3, 4, 5] rfl (t_X11_copy_110 S M1 v1 v2 v3 v4 v5 (0 : Int32) h)
                  · refine gv_iload 94 S 4 dX11_copy_94 rfl ?_
                    refine gv_aload_n 96 S 0 0 dX11_copy_96 rfl rfl ?_
                    refine gv_get 97 S (hF_83_sheetLong X) mf_X11_copy_13 dX11_copy_97 ?_
                    refine gv_iload_n 100 S 3 3 dX11_copy_100 rfl rfl ?_
                    refine gv_iald 101 S h (hI_85 X) dX11_copy_101 (fun h => ?_)
                    refine gv_icmp_gt 102 S 109 h dX11_copy_102 (by decide) (fun h => ?_) (fun h => ?_)
                    · refine gv_iconst 109 S (0 : Int32) dX11_copy_109 (by decide) ?_
                      exact gv_sub [0, 1, 2, 3, 4, 5] rfl (t_X11_copy_110 S M1 v1 v2 v3 v4 v5 (0 : Int32) h)
                    · refine gv_iconst 105 S (1 : Int32) dX11_copy_105 (by decide) ?_
                      refine gv_goto 106 S 110 dX11_copy_106 (by decide) ?_
                      exact gv_sub [0, 1, 2, 3, 4, 5] rfl (t_X11_copy_110 S M1 v1 v2 v3 v4 v5 (1 : Int32) h)
          · refine gv_aload_n 64 S 0 0 dX11_copy_64 rfl rfl ?_
            refine gv_iconst 65 S (2 : Int32) dX11_copy_65 (by decide) ?_
            obtain ⟨r9, M10, hc11, h⟩ := bi_some h
            refine gv_cVi 66 S (As := [.int (2 : Int32)]) (rest := []) (c_X11_fails l X M1 (2 : Int32) r9 M10 hc11) (hO_83 X) rfl (cwV 1 S.1.2.2.2.2 gX11_copy_X11_fails rfl rfl rfl (by decide +kernel) ⟨Nat.le_of_ble_eq_true rfl, Nat.le_of_ble_eq_true rfl⟩) rfl rfl (Nat.le_of_ble_eq_true rfl) dX11_copy_66 ?_
            exact gv_iret 69 S h dX11_copy_69
        · refine gv_aload_n 43 S 0 0 dX11_copy_43 rfl rfl ?_
          refine gv_iconst 44 S (1 : Int32) dX11_copy_44 (by decide) ?_
          obtain ⟨r12, M13, hc14, h⟩ := bi_some h
          refine gv_cVi 45 S (As := [.int (1 : Int32)]) (rest := []) (c_X11_fails l X M1 (1 : Int32) r12 M13 hc14) (hO_83 X) rfl (cwV 1 S.1.2.2.2.2 gX11_copy_X11_fails rfl rfl rfl (by decide +kernel) ⟨Nat.le_of_ble_eq_true rfl, Nat.le_of_ble_eq_true rfl⟩) rfl rfl (Nat.le_of_ble_eq_true rfl) dX11_copy_45 ?_
          exact gv_iret 48 S h dX11_copy_48
    · refine gv_iconst 19 S (-1 : Int32) dX11_copy_19 (by decide) ?_
      exact gv_iret 20 S h dX11_copy_20
theorem mi_X11_begins_11 : ∀ w ∈ u_ws RX11 TX11 39, w ∈ wsX11_begins := by decide +kernel
theorem mf_X11_begins_267 : MF wsX11_begins RX11 267 10 1 := ⟨RX11, TX11, 39, rfl, by decide, mi_X11_begins_11, by decide +kernel⟩
theorem mp_X11_begins_267 : MP wsX11_begins RX11 267 10 1 .int := ⟨RX11, TX11, 39, tyX11, rfl, by decide, mi_X11_begins_11, by decide +kernel, tyX11_ok, nmX11, rfl, by decide +kernel⟩
abbrev rm_X11_begins : Room := { frames := 0, cells := 0, slots := 0, locals := 0 }
set_option maxHeartbeats 4000000 in
set_option maxRecDepth 100000 in
theorem c_X11_begins (l : Launch) (X : GE) (M : MM) (v1 : Int32) (M' : MM) (h : f_X11_begins M v1 = some M') : CTv l yX11_begins wsX11_begins rm_X11_begins X [.ref (X.2.2 83), .int v1] M M' := by
  refine ct_v (own := RX11) (by decide +kernel) rfl rfl (Nat.le_of_ble_eq_true rfl) (lv0 := [(0, .ref (X.2.2 83)), (1, .int v1)]) rfl ?_
  intro p e s m args below meth c S
  unfold f_X11_begins at h
  refine gv_aload_n 0 S 0 0 dX11_begins_0 rfl rfl ?_
  refine gv_bipush 1 S (31 : Int32) dX11_begins_1 (by decide) ?_
  refine gv_aload_n 3 S 0 0 dX11_begins_3 rfl rfl ?_
  refine gv_get 4 S (hF_83_trace X) mf_X11_begins_267 dX11_begins_4 ?_
  refine gv_imul 7 S dX11_begins_7 ?_
  refine gv_iload_n 8 S 1 1 dX11_begins_8 rfl rfl ?_
  refine gv_iadd 9 S dX11_begins_9 ?_
  refine gv_put 10 S h (hP_83_trace X) mp_X11_begins_267 rfl rfl dX11_begins_10 (fun M1 h => ?_)
  exact gv_vret 13 S h dX11_begins_13
theorem mi_X11_tell_11 : ∀ w ∈ u_ws RX11 TX11 39, w ∈ wsX11_tell := by decide +kernel
theorem mf_X11_tell_22 : MF wsX11_tell RX11 22 10 10 := ⟨RX11, TX11, 39, rfl, by decide, mi_X11_tell_11, by decide +kernel⟩
theorem mf_X11_tell_19 : MF wsX11_tell RX11 19 10 9 := ⟨RX11, TX11, 39, rfl, by decide, mi_X11_tell_11, by decide +kernel⟩
abbrev rm_X11_tell : Room := { frames := 1, cells := 0, slots := 0, locals := 21 }
set_option maxHeartbeats 4000000 in
set_option maxRecDepth 100000 in
theorem c_X11_tell (l : Launch) (X : GE) (M : MM) (v1 : Int32) (r : Int32) (M' : MM) (h : f_X11_tell M v1 = some (r, M')) : CTi l yX11_tell wsX11_tell rm_X11_tell X [.ref (X.2.2 83), .int v1] M r M' := by
  refine ct_i (own := RX11) (by decide +kernel) rfl rfl (Nat.le_of_ble_eq_true rfl) (lv0 := [(0, .ref (X.2.2 83)), (1, .int v1)]) rfl ?_
  intro p e s m args below meth c S
  unfold f_X11_tell at h
  refine gv_aload_n 0 S 0 0 dX11_tell_0 rfl rfl ?_
  refine gv_iload_n 1 S 1 1 dX11_tell_1 rfl rfl ?_
  obtain ⟨r1, hc2, h⟩ := br_some h
  refine gv_cVi 2 S (As := [.int v1]) (rest := []) (c_X11_isBatten l X M v1 r1 hc2) (hO_83 X) rfl (cwV 1 S.1.2.2.2.2 gX11_tell_X11_isBatten rfl rfl rfl (by decide +kernel) ⟨Nat.le_of_ble_eq_true rfl, Nat.le_of_ble_eq_true rfl⟩) rfl rfl (Nat.le_of_ble_eq_true rfl) dX11_tell_2 ?_
  refine gv_if_ne 5 S 10 h dX11_tell_5 (by decide) (fun h => ?_) (fun h => ?_)
  · refine gv_aload_n 10 S 0 0 dX11_tell_10 rfl rfl ?_
    refine gv_get 11 S (hF_83_load X) mf_X11_tell_22 dX11_tell_11 ?_
    refine gv_iload_n 14 S 1 1 dX11_tell_14 rfl rfl ?_
    refine gv_iald 15 S h (hI_88 X) dX11_tell_15 (fun h => ?_)
    refine gv_nmi h (fun x3 h => ?_)
    refine gv_istore_n 16 S 2 (lv' := [(2, .int x3), (0, .ref (X.2.2 83)), (1, .int v1)]) dX11_tell_16 rfl (Nat.le_of_ble_eq_true rfl) rfl ?_
    refine gv_aload_n 17 S 0 1 dX11_tell_17 rfl rfl ?_
    refine gv_get 18 S (hF_83_kind X) mf_X11_tell_19 dX11_tell_18 ?_
    refine gv_iload_n 21 S 1 2 dX11_tell_21 rfl rfl ?_
    refine gv_iald 22 S h (hI_87 X) dX11_tell_22 (fun h => ?_)
    by_cases hq10 : (M 87 v1.toNatClampNeg) = 1
    · rw [if_pos hq10] at h
      refine gv_lookup 23 S 48 dX11_tell_23 (by decide) (by rw [hq10] <;> rfl) (by decide) ?_
      refine gv_aload_n 48 S 0 1 dX11_tell_48 rfl rfl ?_
      refine gv_iconst 49 S (2 : Int32) dX11_tell_49 (by decide) ?_
      obtain ⟨M5, hc6, h⟩ := br_some h
      refine gv_cVv 50 S (As := [.int (2 : Int32)]) (rest := []) (c_X11_begins l X M (2 : Int32) M5 hc6) (hO_83 X) rfl (cwV 1 S.1.2.2.2.2 gX11_tell_X11_begins rfl rfl rfl (by decide +kernel) ⟨Nat.le_of_ble_eq_true rfl, Nat.le_of_ble_eq_true rfl⟩) rfl rfl (Nat.le_of_ble_eq_true rfl) dX11_tell_50 ?_
      refine gv_aload_n 53 S 0 1 dX11_tell_53 rfl rfl ?_
      refine gv_iconst 54 S (1 : Int32) dX11_tell_54 (by decide) ?_
      obtain ⟨M8, hc9, h⟩ := br_some h
      refine gv_cVv 55 S (As := [.int (1 : Int32)]) (rest := []) (c_X11_begins l X M5 (1 : Int32) M8 hc9) (hO_83 X) rfl (cwV 1 S.1.2.2.2.2 gX11_tell_X11_begins rfl rfl rfl (by decide +kernel) ⟨Nat.le_of_ble_eq_true rfl, Nat.le_of_ble_eq_true rfl⟩) rfl rfl (Nat.le_of_ble_eq_true rfl) dX11_tell_55 ?_
      refine gv_iload_n 58 S 2 0 dX11_tell_58 rfl rfl ?_
      refine gv_bipush 59 S (100 : Int32) dX11_tell_59 (by decide) ?_
      refine gv_iadd 61 S dX11_tell_61 ?_
      exact gv_iret 62 S h dX11_tell_62
    rw [if_neg hq10] at h
    by_cases hq23 : (M 87 v1.toNatClampNeg) = 2
    · rw [if_pos hq23] at h
      refine gv_lookup 23 S 63 dX11_tell_23 (by decide) (by rw [hq23] <;> rfl) (by decide) ?_
      refine gv_aload_n 63 S 0 1 dX11_tell_63 rfl rfl ?_
      refine gv_iconst 64 S (3 : Int32) dX11_tell_64 (by decide) ?_
      obtain ⟨M12, hc13, h⟩ := br_some h
      refine gv_cVv 65 S (As := [.int (3 : Int32)]) (rest := []) (c_X11_begins l X M (3 : Int32) M12 hc13) (hO_83 X) rfl (cwV 1 S.1.2.2.2.2 gX11_tell_X11_begins rfl rfl rfl (by decide +kernel) ⟨Nat.le_of_ble_eq_true rfl, Nat.le_of_ble_eq_true rfl⟩) rfl rfl (Nat.le_of_ble_eq_true rfl) dX11_tell_65 ?_
      refine gv_aload_n 68 S 0 1 dX11_tell_68 rfl rfl ?_
      refine gv_iconst 69 S (2 : Int32) dX11_tell_69 (by decide) ?_
      obtain ⟨M15, hc16, h⟩ := br_some h
      refine gv_cVv 70 S (As := [.int (2 : Int32)]) (rest := []) (c_X11_begins l X M12 (2 : Int32) M15 hc16) (hO_83 X) rfl (cwV 1 S.1.2.2.2.2 gX11_tell_X11_begins rfl rfl rfl (by decide +kernel) ⟨Nat.le_of_ble_eq_true rfl, Nat.le_of_ble_eq_true rfl⟩) rfl rfl (Nat.le_of_ble_eq_true rfl) dX11_tell_70 ?_
      refine gv_aload_n 73 S 0 1 dX11_tell_73 rfl rfl ?_
      refine gv_iconst 74 S (1 : Int32) dX11_tell_74 (by decide) ?_
      obtain ⟨M18, hc19, h⟩ := br_some h
      refine gv_cVv 75 S (As := [.int (1 : Int32)]) (rest := []) (c_X11_begins l X M15 (1 : Int32) M18 hc19) (hO_83 X) rfl (cwV 1 S.1.2.2.2.2 gX11_tell_X11_begins rfl rfl rfl (by decide +kernel) ⟨Nat.le_of_ble_eq_true rfl, Nat.le_of_ble_eq_true rfl⟩) rfl rfl (Nat.le_of_ble_eq_true rfl) dX11_tell_75 ?_
      refine gv_aload_n 78 S 0 1 dX11_tell_78 rfl rfl ?_
      refine gv_iconst 79 S (1 : Int32) dX11_tell_79 (by decide) ?_
      obtain ⟨M21, hc22, h⟩ := br_some h
      refine gv_cVv 80 S (As := [.int (1 : Int32)]) (rest := []) (c_X11_begins l X M18 (1 : Int32) M21 hc22) (hO_83 X) rfl (cwV 1 S.1.2.2.2.2 gX11_tell_X11_begins rfl rfl rfl (by decide +kernel) ⟨Nat.le_of_ble_eq_true rfl, Nat.le_of_ble_eq_true rfl⟩) rfl rfl (Nat.le_of_ble_eq_true rfl) dX11_tell_80 ?_
      refine gv_iconst 83 S (2 : Int32) dX11_tell_83 (by decide) ?_
      refine gv_iload_n 84 S 2 0 dX11_tell_84 rfl rfl ?_
      refine gv_imul 85 S dX11_tell_85 ?_
      refine gv_bipush 86 S (100 : Int32) dX11_tell_86 (by decide) ?_
      refine gv_iadd 88 S dX11_tell_88 ?_
      exact gv_iret 89 S h dX11_tell_89
    rw [if_neg hq23] at h
    refine gv_lookup 23 S 90 (off := 67) dX11_tell_23 (by decide) (by show Op.lookupswitch.offset [(1, 25), (2, 40)] 67 _ = _; rw [lv_osw (a := 1) hq10 rfl, lv_osw (a := 2) hq23 rfl] <;> rfl) (by decide) ?_
    refine gv_aload_n 90 S 0 1 dX11_tell_90 rfl rfl ?_
    refine gv_iconst 91 S (1 : Int32) dX11_tell_91 (by decide) ?_
    obtain ⟨M25, hc26, h⟩ := br_some h
    refine gv_cVv 92 S (As := [.int (1 : Int32)]) (rest := []) (c_X11_begins l X M (1 : Int32) M25 hc26) (hO_83 X) rfl (cwV 1 S.1.2.2.2.2 gX11_tell_X11_begins rfl rfl rfl (by decide +kernel) ⟨Nat.le_of_ble_eq_true rfl, Nat.le_of_ble_eq_true rfl⟩) rfl rfl (Nat.le_of_ble_eq_true rfl) dX11_tell_92 ?_
    refine gv_iload_n 95 S 2 0 dX11_tell_95 rfl rfl ?_
    exact gv_iret 96 S h dX11_tell_96
  · refine gv_iconst 8 S (-1 : Int32) dX11_tell_8 (by decide) ?_
    exact gv_iret 9 S h dX11_tell_9
theorem mi_X11_call_11 : ∀ w ∈ u_ws RX11 TX11 39, w ∈ wsX11_call := by decide +kernel
theorem mf_X11_call_19 : MF wsX11_call RX11 19 10 9 := ⟨RX11, TX11, 39, rfl, by decide, mi_X11_call_11, by decide +kernel⟩
abbrev rm_X11_call : Room := { frames := 1, cells := 0, slots := 0, locals := 21 }
set_option maxHeartbeats 4000000 in
set_option maxRecDepth 100000 in
theorem t_X11_call_26 {p : Program} {l : Launch} {e : Env} {s : State} {m : MethodId} {args : Array Value} {below : List Frame} {meth : Method} {c : Code} {X : GE} {r : Int32} {M' : MM} (S : CX p s m args meth c cX11_call 2 wsX11_call RX11 (some .int) X) (M : MM) (v1 : Int32) (s0 : Int32) (h : g_X11_call_26 M v1 s0 = some (r, M')) : V p l e (headSpec wsX11_call rm_X11_call).room s m args below meth c 2 X (MQ below (gQi X r M') args s 0 0 (gA X)) M 26 [(0, .ref (X.2.2 83)), (1, .int v1)] [.int s0, .ref (X.2.2 83)] := by
  unfold g_X11_call_26 at h
  obtain ⟨M4, hc5, h⟩ := br_some h
  refine gv_cVv 26 S (As := [.int s0]) (rest := []) (c_X11_begins l X M s0 M4 hc5) (hO_83 X) rfl (cwV 1 S.1.2.2.2.2 gX11_call_X11_begins rfl rfl rfl (by decide +kernel) ⟨Nat.le_of_ble_eq_true rfl, Nat.le_of_ble_eq_true rfl⟩) rfl rfl (Nat.le_of_ble_eq_true rfl) dX11_call_26 ?_
  refine gv_aload_n 29 S 0 0 dX11_call_29 rfl rfl ?_
  refine gv_get 30 S (hF_83_kind X) mf_X11_call_19 dX11_call_30 ?_
  refine gv_iload_n 33 S 1 1 dX11_call_33 rfl rfl ?_
  refine gv_iald 34 S h (hI_87 X) dX11_call_34 (fun h => ?_)
  refine gv_iconst 35 S (2 : Int32) dX11_call_35 (by decide) ?_
  refine gv_icmp_ne 36 S 44 h dX11_call_36 (by decide) (fun h => ?_) (fun h => ?_)
  · refine gv_iload_n 44 S 1 1 dX11_call_44 rfl rfl ?_
    exact gv_iret 45 S h dX11_call_45
  · refine gv_bipush 39 S (40 : Int32) dX11_call_39 (by decide) ?_
    refine gv_goto 41 S 45 dX11_call_41 (by decide) ?_
    exact gv_iret 45 S h dX11_call_45
set_option maxHeartbeats 4000000 in
set_option maxRecDepth 100000 in
theorem c_X11_call (l : Launch) (X : GE) (M : MM) (v1 : Int32) (r : Int32) (M' : MM) (h : f_X11_call M v1 = some (r, M')) : CTi l yX11_call wsX11_call rm_X11_call X [.ref (X.2.2 83), .int v1] M r M' := by
  refine ct_i (own := RX11) (by decide +kernel) rfl rfl (Nat.le_of_ble_eq_true rfl) (lv0 := [(0, .ref (X.2.2 83)), (1, .int v1)]) rfl ?_
  intro p e s m args below meth c S
  unfold f_X11_call at h
  refine gv_aload_n 0 S 0 0 dX11_call_0 rfl rfl ?_
  refine gv_iload_n 1 S 1 1 dX11_call_1 rfl rfl ?_
  obtain ⟨r1, hc2, h⟩ := br_some h
  refine gv_cVi 2 S (As := [.int v1]) (rest := []) (c_X11_isBatten l X M v1 r1 hc2) (hO_83 X) rfl (cwV 1 S.1.2.2.2.2 gX11_call_X11_isBatten rfl rfl rfl (by decide +kernel) ⟨Nat.le_of_ble_eq_true rfl, Nat.le_of_ble_eq_true rfl⟩) rfl rfl (Nat.le_of_ble_eq_true rfl) dX11_call_2 ?_
  refine gv_if_ne 5 S 10 h dX11_call_5 (by decide) (fun h => ?_) (fun h => ?_)
  · refine gv_aload_n 10 S 0 0 dX11_call_10 rfl rfl ?_
    refine gv_aload_n 11 S 0 0 dX11_call_11 rfl rfl ?_
    refine gv_get 12 S (hF_83_kind X) mf_X11_call_19 dX11_call_12 ?_
    refine gv_iload_n 15 S 1 1 dX11_call_15 rfl rfl ?_
    refine gv_iald 16 S h (hI_87 X) dX11_call_16 (fun h => ?_)
    refine gv_iconst 17 S (2 : Int32) dX11_call_17 (by decide) ?_
    refine gv_icmp_ne 18 S 25 h dX11_call_18 (by decide) (fun h => ?_) (fun h => ?_)
    · refine gv_iconst 25 S (4 : Int32) dX11_call_25 (by decide) ?_
      exact gv_sub [0, 1] rfl (t_X11_call_26 S M v1 (4 : Int32) h)
    · refine gv_iconst 21 S (5 : Int32) dX11_call_21 (by decide) ?_
      refine gv_goto 22 S 26 dX11_call_22 (by decide) ?_
      exact gv_sub [0, 1] rfl (t_X11_call_26 S M v1 (5 : Int32) h)
  · refine gv_iconst 8 S (-1 : Int32) dX11_call_8 (by decide) ?_
    exact gv_iret 9 S h dX11_call_9
theorem mi_X11_as_11 : ∀ w ∈ u_ws RX11 TX11 39, w ∈ wsX11_as := by decide +kernel
theorem mp_X11_as_77 : MP wsX11_as RX11 77 10 0 .int := ⟨RX11, TX11, 39, tyX11, rfl, by decide, mi_X11_as_11, by decide +kernel, tyX11_ok, nmX11, rfl, by decide +kernel⟩
theorem mf_X11_as_19 : MF wsX11_as RX11 19 10 9 := ⟨RX11, TX11, 39, rfl, by decide, mi_X11_as_11, by decide +kernel⟩
abbrev rm_X11_as : Room := { frames := 1, cells := 0, slots := 0, locals := 22 }
set_option maxHeartbeats 4000000 in
set_option maxRecDepth 100000 in
theorem c_X11_as (l : Launch) (X : GE) (M : MM) (v1 : Int32) (v2 : Int32) (r : Int32) (M' : MM) (h : f_X11_as M v1 v2 = some (r, M')) : CTi l yX11_as wsX11_as rm_X11_as X [.ref (X.2.2 83), .int v1, .int v2] M r M' := by
  refine ct_i (own := RX11) (by decide +kernel) rfl rfl (Nat.le_of_ble_eq_true rfl) (lv0 := [(0, .ref (X.2.2 83)), (1, .int v1), (2, .int v2)]) rfl ?_
  intro p e s m args below meth c S
  unfold f_X11_as at h
  refine gv_aload_n 0 S 0 0 dX11_as_0 rfl rfl ?_
  refine gv_iconst 1 S (0 : Int32) dX11_as_1 (by decide) ?_
  refine gv_put 2 S h (hP_83_fault X) mp_X11_as_77 rfl rfl dX11_as_2 (fun M1 h => ?_)
  refine gv_aload_n 5 S 0 0 dX11_as_5 rfl rfl ?_
  refine gv_iload_n 6 S 1 1 dX11_as_6 rfl rfl ?_
  obtain ⟨r2, hc3, h⟩ := br_some h
  refine gv_cVi 7 S (As := [.int v1]) (rest := []) (c_X11_isBatten l X M1 v1 r2 hc3) (hO_83 X) rfl (cwV 1 S.1.2.2.2.2 gX11_as_X11_isBatten rfl rfl rfl (by decide +kernel) ⟨Nat.le_of_ble_eq_true rfl, Nat.le_of_ble_eq_true rfl⟩) rfl rfl (Nat.le_of_ble_eq_true rfl) dX11_as_7 ?_
  refine gv_if_ne 10 S 15 h dX11_as_10 (by decide) (fun h => ?_) (fun h => ?_)
  · refine gv_iload_n 15 S 2 2 dX11_as_15 rfl rfl ?_
    refine gv_iconst 16 S (0 : Int32) dX11_as_16 (by decide) ?_
    refine gv_iconst 17 S (2 : Int32) dX11_as_17 (by decide) ?_
    obtain ⟨r4, hc5, h⟩ := br_some h
    refine gv_cSi 18 S (As := [.int v2, .int (0 : Int32), .int (2 : Int32)]) (rest := []) (c_X11_within l X M1 v2 (0 : Int32) (2 : Int32) r4 hc5) (va_cwS 3 S.1.2.2.2.2 gX11_as_X11_within rfl rfl rfl (by decide +kernel) ⟨Nat.le_of_ble_eq_true rfl, Nat.le_of_ble_eq_true rfl⟩) rfl rfl (Nat.le_of_ble_eq_true rfl) dX11_as_18 ?_
    refine gv_if_ne 21 S 27 h dX11_as_21 (by decide) (fun h => ?_) (fun h => ?_)
    · refine gv_aload_n 27 S 0 0 dX11_as_27 rfl rfl ?_
      refine gv_get 28 S (hF_83_kind X) mf_X11_as_19 dX11_as_28 ?_
      refine gv_iload_n 31 S 1 1 dX11_as_31 rfl rfl ?_
      refine gv_iald 32 S h (hI_87 X) dX11_as_32 (fun h => ?_)
      refine gv_iload_n 33 S 2 2 dX11_as_33 rfl rfl ?_
      refine gv_icmp_lt 34 S 41 h dX11_as_34 (by decide) (fun h => ?_) (fun h => ?_)
      · refine gv_aload_n 41 S 0 0 dX11_as_41 rfl rfl ?_
        refine gv_iconst 42 S (2 : Int32) dX11_as_42 (by decide) ?_
        obtain ⟨r6, M7, hc8, h⟩ := bi_some h
        refine gv_cVi 43 S (As := [.int (2 : Int32)]) (rest := []) (c_X11_fails l X M1 (2 : Int32) r6 M7 hc8) (hO_83 X) rfl (cwV 1 S.1.2.2.2.2 gX11_as_X11_fails rfl rfl rfl (by decide +kernel) ⟨Nat.le_of_ble_eq_true rfl, Nat.le_of_ble_eq_true rfl⟩) rfl rfl (Nat.le_of_ble_eq_true rfl) dX11_as_43 ?_
        exact gv_iret 46 S h dX11_as_46
      · refine gv_iconst 37 S (1 : Int32) dX11_as_37 (by decide) ?_
        refine gv_goto 38 S 46 dX11_as_38 (by decide) ?_
        exact gv_iret 46 S h dX11_as_46
    · refine gv_bipush 24 S (-2 : Int32) dX11_as_24 (by decide) ?_
      exact gv_iret 26 S h dX11_as_26
  · refine gv_iconst 13 S (-1 : Int32) dX11_as_13 (by decide) ?_
    exact gv_iret 14 S h dX11_as_14
theorem mi_X11_trace_11 : ∀ w ∈ u_ws RX11 TX11 39, w ∈ wsX11_trace := by decide +kernel
theorem mf_X11_trace_267 : MF wsX11_trace RX11 267 10 1 := ⟨RX11, TX11, 39, rfl, by decide, mi_X11_trace_11, by decide +kernel⟩
abbrev rm_X11_trace : Room := { frames := 0, cells := 0, slots := 0, locals := 0 }
set_option maxHeartbeats 4000000 in
set_option maxRecDepth 100000 in
theorem c_X11_trace (l : Launch) (X : GE) (M : MM) (r : Int32) (h : f_X11_trace M = some r) : CTi l yX11_trace wsX11_trace rm_X11_trace X [.ref (X.2.2 83)] M r M := by
  refine ct_i (own := RX11) (by decide +kernel) rfl rfl (Nat.le_of_ble_eq_true rfl) (lv0 := [(0, .ref (X.2.2 83))]) rfl ?_
  intro p e s m args below meth c S
  unfold f_X11_trace at h
  refine gv_aload_n 0 S 0 0 dX11_trace_0 rfl rfl ?_
  refine gv_get 1 S (hF_83_trace X) mf_X11_trace_267 dX11_trace_1 ?_
  exact gv_iretR 4 S h dX11_trace_4
theorem mi_X11_fault_11 : ∀ w ∈ u_ws RX11 TX11 39, w ∈ wsX11_fault := by decide +kernel
theorem mf_X11_fault_77 : MF wsX11_fault RX11 77 10 0 := ⟨RX11, TX11, 39, rfl, by decide, mi_X11_fault_11, by decide +kernel⟩
abbrev rm_X11_fault : Room := { frames := 0, cells := 0, slots := 0, locals := 0 }
set_option maxHeartbeats 4000000 in
set_option maxRecDepth 100000 in
theorem c_X11_fault (l : Launch) (X : GE) (M : MM) (r : Int32) (h : f_X11_fault M = some r) : CTi l yX11_fault wsX11_fault rm_X11_fault X [.ref (X.2.2 83)] M r M := by
  refine ct_i (own := RX11) (by decide +kernel) rfl rfl (Nat.le_of_ble_eq_true rfl) (lv0 := [(0, .ref (X.2.2 83))]) rfl ?_
  intro p e s m args below meth c S
  unfold f_X11_fault at h
  refine gv_aload_n 0 S 0 0 dX11_fault_0 rfl rfl ?_
  refine gv_get 1 S (hF_83_fault X) mf_X11_fault_77 dX11_fault_1 ?_
  exact gv_iretR 4 S h dX11_fault_4
theorem mi_X11_many_11 : ∀ w ∈ u_ws RX11 TX11 39, w ∈ wsX11_many := by decide +kernel
theorem mf_X11_many_87 : MF wsX11_many RX11 87 10 5 := ⟨RX11, TX11, 39, rfl, by decide, mi_X11_many_11, by decide +kernel⟩
theorem mf_X11_many_117 : MF wsX11_many RX11 117 10 6 := ⟨RX11, TX11, 39, rfl, by decide, mi_X11_many_11, by decide +kernel⟩
theorem mf_X11_many_123 : MF wsX11_many RX11 123 10 7 := ⟨RX11, TX11, 39, rfl, by decide, mi_X11_many_11, by decide +kernel⟩
theorem mf_X11_many_129 : MF wsX11_many RX11 129 10 8 := ⟨RX11, TX11, 39, rfl, by decide, mi_X11_many_11, by decide +kernel⟩
theorem mf_X11_many_135 : MF wsX11_many RX11 135 10 21 := ⟨RX11, TX11, 39, rfl, by decide, mi_X11_many_11, by decide +kernel⟩
theorem mf_X11_many_138 : MF wsX11_many RX11 138 10 35 := ⟨RX11, TX11, 39, rfl, by decide, mi_X11_many_11, by decide +kernel⟩
abbrev rm_X11_many : Room := { frames := 0, cells := 0, slots := 0, locals := 0 }
set_option maxHeartbeats 4000000 in
set_option maxRecDepth 100000 in
theorem c_X11_many (l : Launch) (X : GE) (M : MM) (v1 : Int32) (r : Int32) (h : f_X11_many M v1 = some r) : CTi l yX11_many wsX11_many rm_X11_many X [.ref (X.2.2 83), .int v1] M r M := by
  refine ct_i (own := RX11) (by decide +kernel) rfl rfl (Nat.le_of_ble_eq_true rfl) (lv0 := [(0, .ref (X.2.2 83)), (1, .int v1)]) rfl ?_
  intro p e s m args below meth c S
  unfold f_X11_many at h
  refine gv_iload_n 0 S 1 1 dX11_many_0 rfl rfl ?_
  by_cases hq1 : v1 = 0
  · rw [if_pos hq1] at h
    refine gv_tabIn 1 S 40 dX11_many_1 (by rw [hq1]; decide) (by rw [hq1]; decide) (by rw [hq1] <;> rfl) (by decide) ?_
    refine gv_aload_n 40 S 0 0 dX11_many_40 rfl rfl ?_
    refine gv_get 41 S (hF_83_battens X) mf_X11_many_87 dX11_many_41 ?_
    exact gv_iretR 44 S h dX11_many_44
  rw [if_neg hq1] at h
  by_cases hq2 : v1 = 1
  · rw [if_pos hq2] at h
    refine gv_tabIn 1 S 45 dX11_many_1 (by rw [hq2]; decide) (by rw [hq2]; decide) (by rw [hq2] <;> rfl) (by decide) ?_
    refine gv_aload_n 45 S 0 0 dX11_many_45 rfl rfl ?_
    refine gv_get 46 S (hF_83_hands X) mf_X11_many_117 dX11_many_46 ?_
    exact gv_iretR 49 S h dX11_many_49
  rw [if_neg hq2] at h
  by_cases hq3 : v1 = 2
  · rw [if_pos hq3] at h
    refine gv_tabIn 1 S 50 dX11_many_1 (by rw [hq3]; decide) (by rw [hq3]; decide) (by rw [hq3] <;> rfl) (by decide) ?_
    refine gv_aload_n 50 S 0 0 dX11_many_50 rfl rfl ?_
    refine gv_get 51 S (hF_83_trimNow X) mf_X11_many_123 dX11_many_51 ?_
    exact gv_iretR 54 S h dX11_many_54
  rw [if_neg hq3] at h
  by_cases hq4 : v1 = 3
  · rw [if_pos hq4] at h
    refine gv_tabIn 1 S 55 dX11_many_1 (by rw [hq4]; decide) (by rw [hq4]; decide) (by rw [hq4] <;> rfl) (by decide) ?_
    refine gv_aload_n 55 S 0 0 dX11_many_55 rfl rfl ?_
    refine gv_get 56 S (hF_83_stock X) mf_X11_many_129 dX11_many_56 ?_
    exact gv_iretR 59 S h dX11_many_59
  rw [if_neg hq4] at h
  by_cases hq5 : v1 = 4
  · rw [if_pos hq5] at h
    refine gv_tabIn 1 S 60 dX11_many_1 (by rw [hq5]; decide) (by rw [hq5]; decide) (by rw [hq5] <;> rfl) (by decide) ?_
    refine gv_aload_n 60 S 0 0 dX11_many_60 rfl rfl ?_
    refine gv_get 61 S (hF_83_known X) mf_X11_many_135 dX11_many_61 ?_
    exact gv_iretR 64 S h dX11_many_64
  rw [if_neg hq5] at h
  by_cases hq6 : v1 = 5
  · rw [if_pos hq6] at h
    refine gv_tabIn 1 S 65 dX11_many_1 (by rw [hq6]; decide) (by rw [hq6]; decide) (by rw [hq6] <;> rfl) (by decide) ?_
    refine gv_aload_n 65 S 0 0 dX11_many_65 rfl rfl ?_
    refine gv_get 66 S (hF_83_readings X) mf_X11_many_138 dX11_many_66 ?_
    exact gv_iretR 69 S h dX11_many_69
  rw [if_neg hq6] at h
  have hq1 : ¬ v1.toInt = 0 := lv_neT hq1 rfl
  have hq2 : ¬ v1.toInt = 1 := lv_neT hq2 rfl
  have hq3 : ¬ v1.toInt = 2 := lv_neT hq3 rfl
  have hq4 : ¬ v1.toInt = 3 := lv_neT hq4 rfl
  have hq5 : ¬ v1.toInt = 4 := lv_neT hq5 rfl
  have hq6 : ¬ v1.toInt = 5 := lv_neT hq6 rfl
  refine gv_tabOut 1 S 70 dX11_many_1 (by omega) (by decide) ?_
  refine gv_bipush 70 S (-2 : Int32) dX11_many_70 (by decide) ?_
  exact gv_iretR 72 S h dX11_many_72
