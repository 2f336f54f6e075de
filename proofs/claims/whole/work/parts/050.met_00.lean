abbrev rm_X10_pullOf : Room := { frames := 1, cells := 0, slots := 0, locals := 13 }
set_option maxHeartbeats 4000000 in
set_option maxRecDepth 100000 in
theorem c_X10_pullOf (l : Launch) (X : GE) (M : MM) (v0 : Int32) (v1 : Int32) (v2 : Int32) (r : Int32) (h : f_X10_pullOf M v0 v1 v2 = some r) : CTi l yX10_pullOf wsX10_pullOf rm_X10_pullOf X [.int v0, .int v1, .int v2] M r M := by
  refine ct_i (own := RX10) (by decide +kernel) rfl rfl (Nat.le_of_ble_eq_true rfl) (lv0 := [(0, .int v0), (1, .int v1), (2, .int v2)]) rfl ?_
  intro p e s m args below meth c S
  unfold f_X10_pullOf at h
  refine gv_iload_n 0 S 1 1 dX10_pullOf_0 rfl rfl ?_
  refine gv_iload_n 1 S 2 2 dX10_pullOf_1 rfl rfl ?_
  refine gv_isub 2 S dX10_pullOf_2 ?_
  refine gv_mabs 3 S (by decide +kernel) (by decide +kernel) (by decide +kernel) (by decide +kernel) (Nat.le_of_ble_eq_true rfl) (Nat.le_of_ble_eq_true rfl) dX10_pullOf_3 ?_
  refine gv_nmi h (fun x1 h => ?_)
  refine gv_istore_n 6 S 3 (lv' := [(3, .int x1), (0, .int v0), (1, .int v1), (2, .int v2)]) dX10_pullOf_6 rfl (Nat.le_of_ble_eq_true rfl) rfl ?_
  refine gv_iload_n 7 S 0 1 dX10_pullOf_7 rfl rfl ?_
  by_cases hq2 : v0 = 0
  · rw [if_pos hq2] at h
    refine gv_lookup 8 S 36 dX10_pullOf_8 (by decide) (by rw [hq2] <;> rfl) (by decide) ?_
    refine gv_iload_n 36 S 3 0 dX10_pullOf_36 rfl rfl ?_
    exact gv_iretR 37 S h dX10_pullOf_37
  rw [if_neg hq2] at h
  by_cases hq3 : v0 = 1
  · rw [if_pos hq3] at h
    refine gv_lookup 8 S 38 dX10_pullOf_8 (by decide) (by rw [hq3] <;> rfl) (by decide) ?_
    refine gv_iload_n 38 S 3 0 dX10_pullOf_38 rfl rfl ?_
    refine gv_iconst 39 S (1 : Int32) dX10_pullOf_39 (by decide) ?_
    refine gv_isub 40 S dX10_pullOf_40 ?_
    refine gv_iconst 41 S (0 : Int32) dX10_pullOf_41 (by decide) ?_
    refine gv_mmax 42 S (by decide +kernel) (by decide +kernel) (by decide +kernel) (by decide +kernel) (Nat.le_of_ble_eq_true rfl) (Nat.le_of_ble_eq_true rfl) dX10_pullOf_42 ?_
    exact gv_iretR 45 S h dX10_pullOf_45
  rw [if_neg hq3] at h
  refine gv_lookup 8 S 46 (off := 38) dX10_pullOf_8 (by decide) (by show Op.lookupswitch.offset [(0, 28), (1, 30)] 38 _ = _; rw [lv_osw (a := 0) hq2 rfl, lv_osw (a := 1) hq3 rfl] <;> rfl) (by decide) ?_
  refine gv_iload_n 46 S 3 0 dX10_pullOf_46 rfl rfl ?_
  refine gv_iconst 47 S (2 : Int32) dX10_pullOf_47 (by decide) ?_
  refine gv_idiv 48 S (by decide) dX10_pullOf_48 ?_
  exact gv_iretR 49 S h dX10_pullOf_49
theorem mi_X1_pull_1 : ∀ w ∈ u_ws RX1 TX1 4, w ∈ wsX1_pull := by decide +kernel
theorem mf_X1_pull_9 : MF wsX1_pull RX1 9 1 0 := ⟨RX1, TX1, 4, rfl, by decide, mi_X1_pull_1, by decide +kernel⟩
theorem mf_X1_pull_21 : MF wsX1_pull RX1 21 1 2 := ⟨RX1, TX1, 4, rfl, by decide, mi_X1_pull_1, by decide +kernel⟩
theorem mi_X1_pull_6 : ∀ w ∈ u_ws RX6 TX6 6, w ∈ wsX1_pull := by decide +kernel
theorem mf_X1_pull_44 : MF wsX1_pull RX1 44 6 0 := ⟨RX6, TX6, 6, rfl, by decide, mi_X1_pull_6, by decide +kernel⟩
theorem mf_X1_pull_47 : MF wsX1_pull RX1 47 6 1 := ⟨RX6, TX6, 6, rfl, by decide, mi_X1_pull_6, by decide +kernel⟩
abbrev rm_X1_pull : Room := { frames := 2, cells := 0, slots := 0, locals := 36 }
set_option maxHeartbeats 4000000 in
set_option maxRecDepth 100000 in
theorem c_X1_pull (l : Launch) (X : GE) (M : MM) (v1 : Int32) (r : Int32) (h : f_X1_pull M v1 = some r) : CTi l yX1_pull wsX1_pull rm_X1_pull X [.ref (X.2.2 20), .int v1] M r M := by
  refine ct_i (own := RX1) (by decide +kernel) rfl rfl (Nat.le_of_ble_eq_true rfl) (lv0 := [(0, .ref (X.2.2 20)), (1, .int v1)]) rfl ?_
  intro p e s m args below meth c S
  unfold f_X1_pull at h
  refine gv_aload_n 0 S 0 0 dX1_pull_0 rfl rfl ?_
  refine gv_get 1 S (hF_20_kind X) mf_X1_pull_9 dX1_pull_1 ?_
  refine gv_iload_n 4 S 1 1 dX1_pull_4 rfl rfl ?_
  refine gv_iald 5 S h (hI_21 X) dX1_pull_5 (fun h => ?_)
  refine gv_aload_n 6 S 0 0 dX1_pull_6 rfl rfl ?_
  refine gv_get 7 S (hF_20_now X) mf_X1_pull_21 dX1_pull_7 ?_
  refine gv_get 10 S (hF_23_load X) mf_X1_pull_44 dX1_pull_10 ?_
  refine gv_iload_n 13 S 1 1 dX1_pull_13 rfl rfl ?_
  refine gv_iald 14 S h (hI_24 X) dX1_pull_14 (fun h => ?_)
  refine gv_aload_n 15 S 0 0 dX1_pull_15 rfl rfl ?_
  refine gv_get 16 S (hF_20_now X) mf_X1_pull_21 dX1_pull_16 ?_
  refine gv_get 19 S (hF_23_bricks X) mf_X1_pull_47 dX1_pull_19 ?_
  refine gv_iload_n 22 S 1 1 dX1_pull_22 rfl rfl ?_
  refine gv_iald 23 S h (hI_25 X) dX1_pull_23 (fun h => ?_)
  obtain ⟨r1, hc2, h⟩ := br_some h
  refine gv_cSNi 24 S (As := [.int (M 21 v1.toNatClampNeg), .int (M 24 v1.toNatClampNeg), .int (M 25 v1.toNatClampNeg)]) (rest := []) (c_X10_pullOf l X M (M 21 v1.toNatClampNeg) (M 24 v1.toNatClampNeg) (M 25 v1.toNatClampNeg) r1 hc2) ⟨va_cnB 3 S.1.2.2.2.2 gX1_pull_X10_pullOf_n53 rfl rfl rfl S.2.2.2.2.1 (S.1.2.2.2.2 _ (by decide +kernel)) (by decide +kernel) ⟨Nat.le_of_ble_eq_true rfl, Nat.le_of_ble_eq_true rfl⟩, S.1.2.2.2.2 _ (by decide +kernel), trivial⟩ rfl rfl (Nat.le_of_ble_eq_true rfl) dX1_pull_24 ?_
  exact gv_iretR 27 S h dX1_pull_27
theorem mi_X1_foul_1 : ∀ w ∈ u_ws RX1 TX1 4, w ∈ wsX1_foul := by decide +kernel
theorem mf_X1_foul_15 : MF wsX1_foul RX1 15 1 1 := ⟨RX1, TX1, 4, rfl, by decide, mi_X1_foul_1, by decide +kernel⟩
abbrev rm_X1_foul : Room := { frames := 0, cells := 0, slots := 0, locals := 0 }
set_option maxHeartbeats 4000000 in
set_option maxRecDepth 100000 in
theorem t_X1_foul_44 {p : Program} {l : Launch} {e : Env} {s : State} {m : MethodId} {args : Array Value} {below : List Frame} {meth : Method} {c : Code} {X : GE} {M : MM} {r : Int32} (S : CX p s m args meth c cX1_foul 4 wsX1_foul RX1 (some .boolean) X) (k2 : Nat) (k3 : Nat) (hk2 : hI X k2 8) (hk3 : hI X k3 8) (v1 : Int32) (h : g_X1_foul_44 M k2 k3 v1 = some r) : V p l e (headSpec wsX1_foul rm_X1_foul).room s m args below meth c 4 X (MQ below (gQi X r M) args s 0 0 (gA X)) M 44 [(1, .int v1), (2, .ref (X.2.2 k2)), (3, .ref (X.2.2 k3))] [] := by
  unfold g_X1_foul_44 at h
  refine gv_aload_n 44 S 2 1 dX1_foul_44 rfl rfl ?_
  refine gv_iload_n 45 S 1 0 dX1_foul_45 rfl rfl ?_
  refine gv_iald 46 S h hk2 dX1_foul_46 (fun h => ?_)
  refine gv_aload_n 47 S 2 1 dX1_foul_47 rfl rfl ?_
  refine gv_iload_n 48 S 1 0 dX1_foul_48 rfl rfl ?_
  refine gv_iconst 49 S (1 : Int32) dX1_foul_49 (by decide) ?_
  refine gv_iadd 50 S dX1_foul_50 ?_
  refine gv_iald 51 S h hk2 dX1_foul_51 (fun h => ?_)
  refine gv_icmp_ge 52 S 70 h dX1_foul_52 (by decide) (fun h => ?_) (fun h => ?_)
  · refine gv_iconst 70 S (0 : Int32) dX1_foul_70 (by decide) ?_
    exact gv_zretR 71 S h rfl dX1_foul_71
  · refine gv_aload_n 55 S 3 2 dX1_foul_55 rfl rfl ?_
    refine gv_iload_n 56 S 1 0 dX1_foul_56 rfl rfl ?_
    refine gv_iald 57 S h hk3 dX1_foul_57 (fun h => ?_)
    refine gv_aload_n 58 S 3 2 dX1_foul_58 rfl rfl ?_
    refine gv_iload_n 59 S 1 0 dX1_foul_59 rfl rfl ?_
    refine gv_iconst 60 S (1 : Int32) dX1_foul_60 (by decide) ?_
    refine gv_iadd 61 S dX1_foul_61 ?_
    refine gv_iald 62 S h hk3 dX1_foul_62 (fun h => ?_)
    refine gv_icmp_le 63 S 70 h dX1_foul_63 (by decide) (fun h => ?_) (fun h => ?_)
    · refine gv_iconst 70 S (0 : Int32) dX1_foul_70 (by decide) ?_
      exact gv_zretR 71 S h rfl dX1_foul_71
    · refine gv_iconst 66 S (1 : Int32) dX1_foul_66 (by decide) ?_
      refine gv_goto 67 S 71 dX1_foul_67 (by decide) ?_
      exact gv_zretR 71 S h rfl dX1_foul_71
set_option maxHeartbeats 4000000 in
set_option maxRecDepth 100000 in
theorem c_X1_foul (l : Launch) (X : GE) (M : MM) (v1 : Int32) (k2 : Nat) (k3 : Nat) (hk2 : hI X k2 8) (hk3 : hI X k3 8) (r : Int32) (h : f_X1_foul M v1 k2 k3 = some r) : CTi l yX1_foul wsX1_foul rm_X1_foul X [.ref (X.2.2 20), .int v1, .ref (X.2.2 k2), .ref (X.2.2 k3)] M r M := by
  refine ct_i (own := RX1) (by decide +kernel) rfl rfl (Nat.le_of_ble_eq_true rfl) (lv0 := [(0, .ref (X.2.2 20)), (1, .int v1), (2, .ref (X.2.2 k2)), (3, .ref (X.2.2 k3))]) rfl ?_
  intro p e s m args below meth c S
  unfold f_X1_foul at h
  refine gv_aload_n 0 S 0 0 dX1_foul_0 rfl rfl ?_
  refine gv_get 1 S (hF_20_drop X) mf_X1_foul_15 dX1_foul_1 ?_
  refine gv_iload_n 4 S 1 1 dX1_foul_4 rfl rfl ?_
  refine gv_iald 5 S h (hI_22 X) dX1_foul_5 (fun h => ?_)
  refine gv_if_eq 6 S 20 h dX1_foul_6 (by decide) (fun h => ?_) (fun h => ?_)
  · refine gv_iconst 20 S (0 : Int32) dX1_foul_20 (by decide) ?_
    exact gv_zretR 21 S h rfl dX1_foul_21
  · refine gv_aload_n 9 S 0 0 dX1_foul_9 rfl rfl ?_
    refine gv_get 10 S (hF_20_drop X) mf_X1_foul_15 dX1_foul_10 ?_
    refine gv_iload_n 13 S 1 1 dX1_foul_13 rfl rfl ?_
    refine gv_iconst 14 S (1 : Int32) dX1_foul_14 (by decide) ?_
    refine gv_iadd 15 S dX1_foul_15 ?_
    refine gv_iald 16 S h (hI_22 X) dX1_foul_16 (fun h => ?_)
    refine gv_if_ne 17 S 22 h dX1_foul_17 (by decide) (fun h => ?_) (fun h => ?_)
    · refine gv_aload_n 22 S 2 2 dX1_foul_22 rfl rfl ?_
      refine gv_iload_n 23 S 1 1 dX1_foul_23 rfl rfl ?_
      refine gv_iald 24 S h hk2 dX1_foul_24 (fun h => ?_)
      refine gv_aload_n 25 S 2 2 dX1_foul_25 rfl rfl ?_
      refine gv_iload_n 26 S 1 1 dX1_foul_26 rfl rfl ?_
      refine gv_iconst 27 S (1 : Int32) dX1_foul_27 (by decide) ?_
      refine gv_iadd 28 S dX1_foul_28 ?_
      refine gv_iald 29 S h hk2 dX1_foul_29 (fun h => ?_)
      refine gv_icmp_le 30 S 44 h dX1_foul_30 (by decide) (fun h => ?_) (fun h => ?_)
      · exact gv_sub [1, 2, 3] rfl (t_X1_foul_44 S k2 k3 hk2 hk3 v1 h)
      · refine gv_aload_n 33 S 3 3 dX1_foul_33 rfl rfl ?_
        refine gv_iload_n 34 S 1 1 dX1_foul_34 rfl rfl ?_
        refine gv_iald 35 S h hk3 dX1_foul_35 (fun h => ?_)
        refine gv_aload_n 36 S 3 3 dX1_foul_36 rfl rfl ?_
        refine gv_iload_n 37 S 1 1 dX1_foul_37 rfl rfl ?_
        refine gv_iconst 38 S (1 : Int32) dX1_foul_38 (by decide) ?_
        refine gv_iadd 39 S dX1_foul_39 ?_
        refine gv_iald 40 S h hk3 dX1_foul_40 (fun h => ?_)
        refine gv_icmp_lt 41 S 66 h dX1_foul_41 (by decide) (fun h => ?_) (fun h => ?_)
        · refine gv_iconst 66 S (1 : Int32) dX1_foul_66 (by decide) ?_
          refine gv_goto 67 S 71 dX1_foul_67 (by decide) ?_
          exact gv_zretR 71 S h rfl dX1_foul_71
        · exact gv_sub [1, 2, 3] rfl (t_X1_foul_44 S k2 k3 hk2 hk3 v1 h)
    · refine gv_iconst 20 S (0 : Int32) dX1_foul_20 (by decide) ?_
      exact gv_zretR 21 S h rfl dX1_foul_21
theorem mi_X1_canBe_1 : ∀ w ∈ u_ws RX1 TX1 4, w ∈ wsX1_canBe := by decide +kernel
theorem mf_X1_canBe_37 : MF wsX1_canBe RX1 37 1 3 := ⟨RX1, TX1, 4, rfl, by decide, mi_X1_canBe_1, by decide +kernel⟩
abbrev rm_X1_canBe : Room := { frames := 3, cells := 0, slots := 0, locals := 57 }
set_option maxHeartbeats 4000000 in
set_option maxRecDepth 100000 in
theorem t_X1_canBe_38 {p : Program} {l : Launch} {e : Env} {s : State} {m : MethodId} {args : Array Value} {below : List Frame} {meth : Method} {c : Code} {X : GE} {M : MM} {r : Int32} (S : CX p s m args meth c cX1_canBe 6 wsX1_canBe RX1 (some .boolean) X) (k1 : Nat) (k2 : Nat) (hk1 : hI X k1 8) (hk2 : hI X k2 8) (rec6 : Int32 → Int32 → Int32 → Option Int32) (hrec6 : ∀ (v3 : Int32) (v4 : Int32) (v5 : Int32), rec6 v3 v4 v5 = some r → V p l e (headSpec wsX1_canBe rm_X1_canBe).room s m args below meth c 6 X (MQ below (gQi X r M) args s 0 0 (gA X)) M 6 [(0, .ref (X.2.2 20)), (1, .ref (X.2.2 k1)), (2, .ref (X.2.2 k2)), (3, .int v3), (4, .int v4), (5, .int v5)] []) (v3 : Int32) (v5 : Int32) (s0 : Int32) (s1 : Int32) (h : g_X1_canBe_38 M rec6 k1 k2 v3 v5 s0 s1 = some r) : V p l e (headSpec wsX1_canBe rm_X1_canBe).room s m args below meth c 6 X (MQ below (gQi X r M) args s 0 0 (gA X)) M 38 [(0, .ref (X.2.2 20)), (1, .ref (X.2.2 k1)), (2, .ref (X.2.2 k2)), (3, .int v3), (5, .int v5)] [.int s0, .int s1] := by
  unfold g_X1_canBe_38 at h
  refine gv_iadd 38 S dX1_canBe_38 ?_
  refine gv_nmi h (fun x3 h => ?_)
  refine gv_istore 39 S (lv' := [(4, .int x3), (0, .ref (X.2.2 20)), (1, .ref (X.2.2 k1)), (2, .ref (X.2.2 k2)), (3, .int v3), (5, .int v5)]) dX1_canBe_39 (Nat.le_of_ble_eq_true rfl) rfl ?_
  refine gv_iload 41 S 5 dX1_canBe_41 rfl ?_
  refine gv_iconst 43 S (1 : Int32) dX1_canBe_43 (by decide) ?_
  refine gv_iadd 44 S dX1_canBe_44 ?_
  refine gv_aload_n 45 S 0 1 dX1_canBe_45 rfl rfl ?_
  refine gv_get 46 S (hF_20_count X) mf_X1_canBe_37 dX1_canBe_46 ?_
  refine gv_icmp_ge 49 S 65 h dX1_canBe_49 (by decide) (fun h => ?_) (fun h => ?_)
  · refine gv_iinc 65 S 5 (v5 + (1 : Int32)) (lv' := [(5, .int (v5 + (1 : Int32))), (4, .int x3), (0, .ref (X.2.2 20)), (1, .ref (X.2.2 k1)), (2, .ref (X.2.2 k2)), (3, .int v3)]) dX1_canBe_65 rfl rfl (Nat.le_of_ble_eq_true rfl) rfl ?_
    refine gv_goto 68 S 6 dX1_canBe_68 (by decide) ?_
    exact gv_sub [2, 3, 4, 5, 1, 0] rfl (hrec6 v3 x3 (v5 + (1 : Int32)) h)
  · refine gv_aload_n 52 S 0 1 dX1_canBe_52 rfl rfl ?_
    refine gv_iload 53 S 5 dX1_canBe_53 rfl ?_
    refine gv_aload_n 55 S 1 2 dX1_canBe_55 rfl rfl ?_
    refine gv_aload_n 56 S 2 3 dX1_canBe_56 rfl rfl ?_
    obtain ⟨r4, hc5, h⟩ := br_some h
    refine gv_cVi 57 S (As := [.int v5, .ref (X.2.2 k1), .ref (X.2.2 k2)]) (rest := []) (c_X1_foul l X M v5 k1 k2 hk1 hk2 r4 hc5) (hO_20 X) rfl (cwV 3 S.1.2.2.2.2 gX1_canBe_X1_foul rfl rfl rfl (by decide +kernel) ⟨Nat.le_of_ble_eq_true rfl, Nat.le_of_ble_eq_true rfl⟩) rfl rfl (Nat.le_of_ble_eq_true rfl) dX1_canBe_57 ?_
    refine gv_if_eq 60 S 65 h dX1_canBe_60 (by decide) (fun h => ?_) (fun h => ?_)
    · refine gv_iinc 65 S 5 (v5 + (1 : Int32)) (lv' := [(5, .int (v5 + (1 : Int32))), (4, .int x3), (0, .ref (X.2.2 20)), (1, .ref (X.2.2 k1)), (2, .ref (X.2.2 k2)), (3, .int v3)]) dX1_canBe_65 rfl rfl (Nat.le_of_ble_eq_true rfl) rfl ?_
      refine gv_goto 68 S 6 dX1_canBe_68 (by decide) ?_
      exact gv_sub [2, 3, 4, 5, 1, 0] rfl (hrec6 v3 x3 (v5 + (1 : Int32)) h)
    · refine gv_iconst 63 S (0 : Int32) dX1_canBe_63 (by decide) ?_
      exact gv_zretR 64 S h rfl dX1_canBe_64
set_option maxHeartbeats 4000000 in
set_option maxRecDepth 100000 in
theorem t_X1_canBe_6 {p : Program} {l : Launch} {e : Env} {s : State} {m : MethodId} {args : Array Value} {below : List Frame} {meth : Method} {c : Code} {X : GE} {M : MM} {r : Int32} (S : CX p s m args meth c cX1_canBe 6 wsX1_canBe RX1 (some .boolean) X) (k1 : Nat) (k2 : Nat) (hk1 : hI X k1 8) (hk2 : hI X k2 8) : ∀ (n : Nat) (v3 : Int32) (v4 : Int32) (v5 : Int32) (h : g_X1_canBe_6 M k1 k2 n v3 v4 v5 = some r), V p l e (headSpec wsX1_canBe rm_X1_canBe).room s m args below meth c 6 X (MQ below (gQi X r M) args s 0 0 (gA X)) M 6 [(0, .ref (X.2.2 20)), (1, .ref (X.2.2 k1)), (2, .ref (X.2.2 k2)), (3, .int v3), (4, .int v4), (5, .int v5)] [] := by
  intro n
  induction n with
  | zero =>
    intro v3 v4 v5 h
    rw [g_X1_canBe_6] at h
    cases h
  | succ n ih =>
    intro v3 v4 v5 h
    rw [g_X1_canBe_6] at h
    refine gv_iload 6 S 5 dX1_canBe_6 rfl ?_
    refine gv_aload_n 8 S 0 0 dX1_canBe_8 rfl rfl ?_
    refine gv_get 9 S (hF_20_count X) mf_X1_canBe_37 dX1_canBe_9 ?_
    refine gv_icmp_ge 12 S 71 h dX1_canBe_12 (by decide) (fun h => ?_) (fun h => ?_)
    · refine gv_iload 71 S 4 dX1_canBe_71 rfl ?_
      refine gv_iload_n 73 S 3 3 dX1_canBe_73 rfl rfl ?_
      refine gv_icmp_gt 74 S 81 h dX1_canBe_74 (by decide) (fun h => ?_) (fun h => ?_)
      · refine gv_iconst 81 S (0 : Int32) dX1_canBe_81 (by decide) ?_
        exact gv_zretR 82 S h rfl dX1_canBe_82
      · refine gv_iconst 77 S (1 : Int32) dX1_canBe_77 (by decide) ?_
        refine gv_goto 78 S 82 dX1_canBe_78 (by decide) ?_
        exact gv_zretR 82 S h rfl dX1_canBe_82
    · refine gv_iload 15 S 4 dX1_canBe_15 rfl ?_
      refine gv_aload_n 17 S 1 1 dX1_canBe_17 rfl rfl ?_
      refine gv_iload 18 S 5 dX1_canBe_18 rfl ?_
      refine gv_iald 20 S h hk1 dX1_canBe_20 (fun h => ?_)
      refine gv_aload_n 21 S 2 2 dX1_canBe_21 rfl rfl ?_
      refine gv_iload 22 S 5 dX1_canBe_22 rfl ?_
      refine gv_iald 24 S h hk2 dX1_canBe_24 (fun h => ?_)
      refine gv_icmp_eq 25 S 37 h dX1_canBe_25 (by decide) (fun h => ?_) (fun h => ?_)
      · refine gv_iconst 37 S (0 : Int32) dX1_canBe_37 (by decide) ?_
        exact gv_sub [0, 1, 2, 3, 5] rfl (t_X1_canBe_38 S k1 k2 hk1 hk2 (g_X1_canBe_6 M k1 k2 n) ih v3 v5 (0 : Int32) v4 h)
      · refine gv_aload_n 28 S 0 0 dX1_canBe_28 rfl rfl ?_
        refine gv_iload 29 S 5 dX1_canBe_29 rfl ?_
        obtain ⟨r1, hc2, h⟩ := br_some h
        refine gv_cVi 31 S (As := [.int v5]) (rest := [.int v4]) (c_X1_pull l X M v5 r1 hc2) (hO_20 X) rfl (cwV 1 S.1.2.2.2.2 gX1_canBe_X1_pull rfl rfl rfl (by decide +kernel) ⟨Nat.le_of_ble_eq_true rfl, Nat.le_of_ble_eq_true rfl⟩) rfl rfl (Nat.le_of_ble_eq_true rfl) dX1_canBe_31 ?_
        refine gv_goto 34 S 38 dX1_canBe_34 (by decide) ?_
        exact gv_sub [0, 1, 2, 3, 5] rfl (t_X1_canBe_38 S k1 k2 hk1 hk2 (g_X1_canBe_6 M k1 k2 n) ih v3 v5 r1 v4 h)
set_option maxHeartbeats 4000000 in
set_option maxRecDepth 100000 in
theorem c_X1_canBe (l : Launch) (X : GE) (M : MM) (k1 : Nat) (k2 : Nat) (v3 : Int32) (hk1 : hI X k1 8) (hk2 : hI X k2 8) (r : Int32) (h : f_X1_canBe M k1 k2 v3 = some r) : CTi l yX1_canBe wsX1_canBe rm_X1_canBe X [.ref (X.2.2 20), .ref (X.2.2 k1), .ref (X.2.2 k2), .int v3] M r M := by
  refine ct_i (own := RX1) (by decide +kernel) rfl rfl (Nat.le_of_ble_eq_true rfl) (lv0 := [(0, .ref (X.2.2 20)), (1, .ref (X.2.2 k1)), (2, .ref (X.2.2 k2)), (3, .int v3)]) rfl ?_
  intro p e s m args below meth c S
  unfold f_X1_canBe at h
  refine gv_iconst 0 S (0 : Int32) dX1_canBe_0 (by decide) ?_
  refine gv_istore 1 S (lv' := [(4, .int (0 : Int32)), (0, .ref (X.2.2 20)), (1, .ref (X.2.2 k1)), (2, .ref (X.2.2 k2)), (3, .int v3)]) dX1_canBe_1 (Nat.le_of_ble_eq_true rfl) rfl ?_
  refine gv_iconst 3 S (0 : Int32) dX1_canBe_3 (by decide) ?_
  refine gv_istore 4 S (lv' := [(5, .int (0 : Int32)), (4, .int (0 : Int32)), (0, .ref (X.2.2 20)), (1, .ref (X.2.2 k1)), (2, .ref (X.2.2 k2)), (3, .int v3)]) dX1_canBe_4 (Nat.le_of_ble_eq_true rfl) rfl ?_
  exact gv_sub [2, 3, 4, 5, 1, 0] rfl (t_X1_canBe_6 S k1 k2 hk1 hk2 FU v3 (0 : Int32) (0 : Int32) h)
theorem mi_X0_run_0 : ∀ w ∈ u_ws RX0 TX0 5, w ∈ wsX0_run := by decide +kernel
theorem mp_X0_run_18 : MP wsX0_run RX0 18 0 2 .int := ⟨RX0, TX0, 5, tyX0, rfl, by decide, mi_X0_run_0, by decide +kernel, tyX0_ok, nmX0, rfl, by decide +kernel⟩
theorem mp_X0_run_22 : MP wsX0_run RX0 22 0 3 .int := ⟨RX0, TX0, 5, tyX0, rfl, by decide, mi_X0_run_0, by decide +kernel, tyX0_ok, nmX0, rfl, by decide +kernel⟩
theorem mp_X0_run_25 : MP wsX0_run RX0 25 0 4 .int := ⟨RX0, TX0, 5, tyX0, rfl, by decide, mi_X0_run_0, by decide +kernel, tyX0_ok, nmX0, rfl, by decide +kernel⟩
theorem mi_X0_run_1 : ∀ w ∈ u_ws RX1 TX1 4, w ∈ wsX0_run := by decide +kernel
theorem mf_X0_run_28 : MF wsX0_run RX0 28 1 2 := ⟨RX1, TX1, 4, rfl, by decide, mi_X0_run_1, by decide +kernel⟩
theorem mi_X0_run_6 : ∀ w ∈ u_ws RX6 TX6 6, w ∈ wsX0_run := by decide +kernel
theorem mf_X0_run_34 : MF wsX0_run RX0 34 6 2 := ⟨RX6, TX6, 6, rfl, by decide, mi_X0_run_6, by decide +kernel⟩
theorem mf_X0_run_9 : MF wsX0_run RX0 9 0 0 := ⟨RX0, TX0, 5, rfl, by decide, mi_X0_run_0, by decide +kernel⟩
theorem mf_X0_run_15 : MF wsX0_run RX0 15 0 1 := ⟨RX0, TX0, 5, rfl, by decide, mi_X0_run_0, by decide +kernel⟩
theorem mi_X0_run_2 : ∀ w ∈ u_ws RX2 TX2 3, w ∈ wsX0_run := by decide +kernel
theorem mf_X0_run_45 : MF wsX0_run RX0 45 2 2 := ⟨RX2, TX2, 3, rfl, by decide, mi_X0_run_2, by decide +kernel⟩
theorem mf_X0_run_50 : MF wsX0_run RX0 50 2 0 := ⟨RX2, TX2, 3, rfl, by decide, mi_X0_run_2, by decide +kernel⟩
theorem mf_X0_run_53 : MF wsX0_run RX0 53 2 1 := ⟨RX2, TX2, 3, rfl, by decide, mi_X0_run_2, by decide +kernel⟩
theorem mf_X0_run_18 : MF wsX0_run RX0 18 0 2 := ⟨RX0, TX0, 5, rfl, by decide, mi_X0_run_0, by decide +kernel⟩
theorem mf_X0_run_22 : MF wsX0_run RX0 22 0 3 := ⟨RX0, TX0, 5, rfl, by decide, mi_X0_run_0, by decide +kernel⟩
abbrev rm_X0_run : Room := { frames := 4, cells := 0, slots := 0, locals := 82 }
set_option maxHeartbeats 4000000 in
set_option maxRecDepth 100000 in
theorem t_X0_run_55 {p : Program} {l : Launch} {e : Env} {s : State} {m : MethodId} {args : Array Value} {below : List Frame} {meth : Method} {c : Code} {X : GE} {M' : MM} (S : CX p s m args meth c cX0_run 7 wsX0_run RX0 none X) : ∀ (n : Nat) (M : MM) (v3 : Int32) (v4 : Int32) (h : g_X0_run_55 n M v3 v4 = some M'), V p l e (headSpec wsX0_run rm_X0_run).room s m args below meth c 7 X (MQ below (gQv X M') args s 0 0 (gA X)) M 55 [(0, .ref (X.2.2 68)), (1, .ref (X.2.2 20)), (2, .ref (X.2.2 65)), (3, .int v3), (4, .int v4)] [] := by
  intro n
  induction n with
  | zero =>
    intro M v3 v4 h
    rw [g_X0_run_55] at h
    cases h
  | succ n ih =>
    intro M v3 v4 h
    rw [g_X0_run_55] at h
    refine gv_iload 55 S 4 dX0_run_55 rfl ?_
    refine gv_aload_n 57 S 2 2 dX0_run_57 rfl rfl ?_
    refine gv_get 58 S (hF_65_count X) mf_X0_run_45 dX0_run_58 ?_
    refine gv_icmp_ge 61 S 179 h dX0_run_61 (by decide) (fun h => ?_) (fun h => ?_)
    · exact gv_vret 179 S h dX0_run_179
    · refine gv_aload_n 64 S 2 2 dX0_run_64 rfl rfl ?_
      refine gv_get 65 S (hF_65_batten X) mf_X0_run_50 dX0_run_65 ?_
      refine gv_iload 68 S 4 dX0_run_68 rfl ?_
      refine gv_iald 70 S h (hI_66 X) dX0_run_70 (fun h => ?_)
      refine gv_nmi h (fun x6 h => ?_)
      refine gv_istore 71 S (lv' := [(5, .int x6), (0, .ref (X.2.2 68)), (1, .ref (X.2.2 20)), (2, .ref (X.2.2 65)), (3, .int v3), (4, .int v4)]) dX0_run_71 (Nat.le_of_ble_eq_true rfl) rfl ?_
      refine gv_aload_n 73 S 0 1 dX0_run_73 rfl rfl ?_
      refine gv_get 74 S (hF_68_after X) mf_X0_run_15 dX0_run_74 ?_
      refine gv_iload 77 S 0 dX0_run_77 rfl ?_
      refine gv_aload_n 79 S 2 3 dX0_run_79 rfl rfl ?_
      refine gv_get 80 S (hF_65_height X) mf_X0_run_53 dX0_run_80 ?_
      refine gv_iload 83 S 5 dX0_run_83 rfl ?_
      refine gv_iald 85 S h (hI_67 X) dX0_run_85 (fun h => ?_)
      refine gv_iast 86 S h (hI_70 X) dX0_run_86 (fun M7 h => ?_)
      refine gv_aload_n 87 S 1 2 dX0_run_87 rfl rfl ?_
      refine gv_aload_n 88 S 0 1 dX0_run_88 rfl rfl ?_
      refine gv_get 89 S (hF_68_before X) mf_X0_run_9 dX0_run_89 ?_
      refine gv_aload_n 92 S 0 1 dX0_run_92 rfl rfl ?_
      refine gv_get 93 S (hF_68_after X) mf_X0_run_15 dX0_run_93 ?_
      refine gv_iload_n 96 S 3 4 dX0_run_96 rfl rfl ?_
      obtain ⟨r8, hc9, h⟩ := br_some h
      refine gv_cVi 97 S (As := [.ref (X.2.2 69), .ref (X.2.2 70), .int v3]) (rest := []) (c_X1_canBe l X M7 69 70 v3 (hI_69 X) (hI_70 X) r8 hc9) (hO_20 X) rfl (cwV 3 S.1.2.2.2.2 gX0_run_X1_canBe rfl rfl rfl (by decide +kernel) ⟨Nat.le_of_ble_eq_true rfl, Nat.le_of_ble_eq_true rfl⟩) rfl rfl (Nat.le_of_ble_eq_true rfl) dX0_run_97 ?_
      refine gv_if_ne 100 S 110 h dX0_run_100 (by decide) (fun h => ?_) (fun h => ?_)
      · refine gv_aload_n 110 S 0 1 dX0_run_110 rfl rfl ?_
        refine gv_get 111 S (hF_68_after X) mf_X0_run_15 dX0_run_111 ?_
        refine gv_iload 114 S 0 dX0_run_114 rfl ?_
        refine gv_iald 116 S h (hI_70 X) dX0_run_116 (fun h => ?_)
        refine gv_aload_n 117 S 0 1 dX0_run_117 rfl rfl ?_
        refine gv_get 118 S (hF_68_before X) mf_X0_run_9 dX0_run_118 ?_
        refine gv_iload 121 S 0 dX0_run_121 rfl ?_
        refine gv_iald 123 S h (hI_69 X) dX0_run_123 (fun h => ?_)
        refine gv_isub 124 S dX0_run_124 ?_
        refine gv_mabs 125 S (by decide +kernel) (by decide +kernel) (by decide +kernel) (by decide +kernel) (Nat.le_of_ble_eq_true rfl) (Nat.le_of_ble_eq_true rfl) dX0_run_125 ?_
        refine gv_nmi h (fun x10 h => ?_)
        refine gv_istore 128 S (lv' := [(6, .int x10), (5, .int x6), (0, .ref (X.2.2 68)), (1, .ref (X.2.2 20)), (2, .ref (X.2.2 65)), (3, .int v3), (4, .int v4)]) dX0_run_128 (Nat.le_of_ble_eq_true rfl) rfl ?_
        refine gv_aload_n 130 S 0 2 dX0_run_130 rfl rfl ?_
        refine gv_dup 131 S dX0_run_131 rfl ?_
        refine gv_get 132 S (hF_68_beats X) mf_X0_run_18 dX0_run_132 ?_
        refine gv_iload 135 S 0 dX0_run_135 rfl ?_
        refine gv_iadd 137 S dX0_run_137 ?_
        refine gv_put 138 S h (hP_68_beats X) mp_X0_run_18 rfl rfl dX0_run_138 (fun M11 h => ?_)
        refine gv_aload_n 141 S 0 2 dX0_run_141 rfl rfl ?_
        refine gv_dup 142 S dX0_run_142 rfl ?_
        refine gv_get 143 S (hF_68_effort X) mf_X0_run_22 dX0_run_143 ?_
        refine gv_iload 146 S 0 dX0_run_146 rfl ?_
        refine gv_aload_n 148 S 1 3 dX0_run_148 rfl rfl ?_
        refine gv_iload 149 S 1 dX0_run_149 rfl ?_
        obtain ⟨r12, hc13, h⟩ := br_some h
        refine gv_cVi 151 S (As := [.int x6]) (rest := [.int x10, .int (M11 68 3), .ref (X.2.2 68)]) (c_X1_pull l X M11 x6 r12 hc13) (hO_20 X) rfl (cwV 1 S.1.2.2.2.2 gX0_run_X1_pull rfl rfl rfl (by decide +kernel) ⟨Nat.le_of_ble_eq_true rfl, Nat.le_of_ble_eq_true rfl⟩) rfl rfl (Nat.le_of_ble_eq_true rfl) dX0_run_151 ?_
        refine gv_imul 154 S dX0_run_154 ?_
        refine gv_iadd 155 S dX0_run_155 ?_
        refine gv_put 156 S h (hP_68_effort X) mp_X0_run_22 rfl rfl dX0_run_156 (fun M14 h => ?_)
        refine gv_aload_n 159 S 0 2 dX0_run_159 rfl rfl ?_
        refine gv_get 160 S (hF_68_before X) mf_X0_run_9 dX0_run_160 ?_
        refine gv_iload 163 S 1 dX0_run_163 rfl ?_
        refine gv_aload_n 165 S 0 2 dX0_run_165 rfl rfl ?_
        refine gv_get 166 S (hF_68_after X) mf_X0_run_15 dX0_run_166 ?_
        refine gv_iload 169 S 1 dX0_run_169 rfl ?_
        refine gv_iald 171 S h (hI_70 X) dX0_run_171 (fun h => ?_)
        refine gv_iast 172 S h (hI_69 X) dX0_run_172 (fun M15 h => ?_)
        refine gv_iinc 173 S 6 (v4 + (1 : Int32)) (lv' := [(4, .int (v4 + (1 : Int32))), (6, .int x10), (5, .int x6), (0, .ref (X.2.2 68)), (1, .ref (X.2.2 20)), (2, .ref (X.2.2 65)), (3, .int v3)]) dX0_run_173 rfl rfl (Nat.le_of_ble_eq_true rfl) rfl ?_
        refine gv_goto 176 S 55 dX0_run_176 (by decide) ?_
        exact gv_sub [3, 4, 5, 6, 0] rfl (ih M15 v3 (v4 + (1 : Int32)) h)
      · refine gv_aload_n 103 S 0 1 dX0_run_103 rfl rfl ?_
        refine gv_iload 104 S 5 dX0_run_104 rfl ?_
        refine gv_put 106 S h (hP_68_firstWrong X) mp_X0_run_25 rfl rfl dX0_run_106 (fun M16 h => ?_)
        exact gv_vret 109 S h dX0_run_109
set_option maxHeartbeats 4000000 in
set_option maxRecDepth 100000 in
theorem c_X0_run (l : Launch) (X : GE) (M : MM) (v3 : Int32) (M' : MM) (h : f_X0_run M v3 = some M') : CTv l yX0_run wsX0_run rm_X0_run X [.ref (X.2.2 68), .ref (X.2.2 20), .ref (X.2.2 65), .int v3] M M' := by
  refine ct_v (own := RX0) (by decide +kernel) rfl rfl (Nat.le_of_ble_eq_true rfl) (lv0 := [(0, .ref (X.2.2 68)), (1, .ref (X.2.2 20)), (2, .ref (X.2.2 65)), (3, .int v3)]) rfl ?_
  intro p e s m args below meth c S
  unfold f_X0_run at h
  refine gv_aload_n 0 S 0 0 dX0_run_0 rfl rfl ?_
  refine gv_iconst 1 S (0 : Int32) dX0_run_1 (by decide) ?_
  refine gv_put 2 S h (hP_68_beats X) mp_X0_run_18 rfl rfl dX0_run_2 (fun M1 h => ?_)
  refine gv_aload_n 5 S 0 0 dX0_run_5 rfl rfl ?_
  refine gv_iconst 6 S (0 : Int32) dX0_run_6 (by decide) ?_
  refine gv_put 7 S h (hP_68_effort X) mp_X0_run_22 rfl rfl dX0_run_7 (fun M2 h => ?_)
  refine gv_aload_n 10 S 0 0 dX0_run_10 rfl rfl ?_
  refine gv_bipush 11 S (-9 : Int32) dX0_run_11 (by decide) ?_
  refine gv_put 13 S h (hP_68_firstWrong X) mp_X0_run_25 rfl rfl dX0_run_13 (fun M3 h => ?_)
  refine gv_aload_n 16 S 1 1 dX0_run_16 rfl rfl ?_
  refine gv_get 17 S (hF_20_now X) mf_X0_run_28 dX0_run_17 ?_
  refine gv_get 20 S (hF_23_height X) mf_X0_run_34 dX0_run_20 ?_
  refine gv_iconst 23 S (0 : Int32) dX0_run_23 (by decide) ?_
  refine gv_aload_n 24 S 0 0 dX0_run_24 rfl rfl ?_
  refine gv_get 25 S (hF_68_before X) mf_X0_run_9 dX0_run_25 ?_
  refine gv_iconst 28 S (0 : Int32) dX0_run_28 (by decide) ?_
  refine gv_bipush 29 S (8 : Int32) dX0_run_29 (by decide) ?_
  refine gv_copy 31 S h (hI_26 X) (hI_69 X) (by decide +kernel) (by decide +kernel) (by decide +kernel) (by decide +kernel) (Nat.le_of_ble_eq_true rfl) (Nat.le_of_ble_eq_true rfl) dX0_run_31 (fun M4 h => ?_)
  refine gv_aload_n 34 S 1 1 dX0_run_34 rfl rfl ?_
  refine gv_get 35 S (hF_20_now X) mf_X0_run_28 dX0_run_35 ?_
  refine gv_get 38 S (hF_23_height X) mf_X0_run_34 dX0_run_38 ?_
  refine gv_iconst 41 S (0 : Int32) dX0_run_41 (by decide) ?_
  refine gv_aload_n 42 S 0 0 dX0_run_42 rfl rfl ?_
  refine gv_get 43 S (hF_68_after X) mf_X0_run_15 dX0_run_43 ?_
  refine gv_iconst 46 S (0 : Int32) dX0_run_46 (by decide) ?_
  refine gv_bipush 47 S (8 : Int32) dX0_run_47 (by decide) ?_
  refine gv_copy 49 S h (hI_26 X) (hI_70 X) (by decide +kernel) (by decide +kernel) (by decide +kernel) (by decide +kernel) (Nat.le_of_ble_eq_true rfl) (Nat.le_of_ble_eq_true rfl) dX0_run_49 (fun M5 h => ?_)
  refine gv_iconst 52 S (0 : Int32) dX0_run_52 (by decide) ?_
  refine gv_istore 53 S (lv' := [(4, .int (0 : Int32)), (0, .ref (X.2.2 68)), (1, .ref (X.2.2 20)), (2, .ref (X.2.2 65)), (3, .int v3)]) dX0_run_53 (Nat.le_of_ble_eq_true rfl) rfl ?_
  exact gv_sub [1, 2, 3, 4, 0] rfl (t_X0_run_55 S FU M5 v3 (0 : Int32) h)
abbrev rm_X9_kindOf : Room := { frames := 0, cells := 0, slots := 0, locals := 0 }
set_option maxHeartbeats 4000000 in
set_option maxRecDepth 100000 in
theorem c_X9_kindOf (l : Launch) (X : GE) (M : MM) (v0 : Int32) (r : Int32) (h : f_X9_kindOf M v0 = some r) : CTi l yX9_kindOf wsX9_kindOf rm_X9_kindOf X [.int v0] M r M := by
  refine ct_i (own := RX9) (by decide +kernel) rfl rfl (Nat.le_of_ble_eq_true rfl) (lv0 := [(0, .int v0)]) rfl ?_
  intro p e s m args below meth c S
  unfold f_X9_kindOf at h
  refine gv_iload_n 0 S 0 0 dX9_kindOf_0 rfl rfl ?_
  refine gv_bipush 1 S (108 : Int32) dX9_kindOf_1 (by decide) ?_
  refine gv_icmp_ne 3 S 10 h dX9_kindOf_3 (by decide) (fun h => ?_) (fun h => ?_)
  · refine gv_iload_n 10 S 0 0 dX9_kindOf_10 rfl rfl ?_
    refine gv_bipush 11 S (97 : Int32) dX9_kindOf_11 (by decide) ?_
    refine gv_icmp_ne 13 S 20 h dX9_kindOf_13 (by decide) (fun h => ?_) (fun h => ?_)
    · refine gv_iconst 20 S (2 : Int32) dX9_kindOf_20 (by decide) ?_
      exact gv_iretR 21 S h dX9_kindOf_21
    · refine gv_iconst 16 S (1 : Int32) dX9_kindOf_16 (by decide) ?_
      refine gv_goto 17 S 21 dX9_kindOf_17 (by decide) ?_
      exact gv_iretR 21 S h dX9_kindOf_21
  · refine gv_iconst 6 S (0 : Int32) dX9_kindOf_6 (by decide) ?_
    refine gv_goto 7 S 21 dX9_kindOf_7 (by decide) ?_
    exact gv_iretR 21 S h dX9_kindOf_21
theorem mi_X1_build_1 : ∀ w ∈ u_ws RX1 TX1 4, w ∈ wsX1_build := by decide +kernel
theorem mf_X1_build_21 : MF wsX1_build RX1 21 1 2 := ⟨RX1, TX1, 4, rfl, by decide, mi_X1_build_1, by decide +kernel⟩
theorem mi_X1_build_6 : ∀ w ∈ u_ws RX6 TX6 6, w ∈ wsX1_build := by decide +kernel
theorem mp_X1_build_25 : MP wsX1_build RX1 25 6 4 .int := ⟨RX6, TX6, 6, tyX6, rfl, by decide, mi_X1_build_6, by decide +kernel, tyX6_ok, nmX6, rfl, by decide +kernel⟩
theorem mp_X1_build_29 : MP wsX1_build RX1 29 6 5 .int := ⟨RX6, TX6, 6, tyX6, rfl, by decide, mi_X1_build_6, by decide +kernel, tyX6_ok, nmX6, rfl, by decide +kernel⟩
theorem mp_X1_build_32 : MP wsX1_build RX1 32 6 3 .int := ⟨RX6, TX6, 6, tyX6, rfl, by decide, mi_X1_build_6, by decide +kernel, tyX6_ok, nmX6, rfl, by decide +kernel⟩
theorem mp_X1_build_37 : MP wsX1_build RX1 37 1 3 .int := ⟨RX1, TX1, 4, tyX1, rfl, by decide, mi_X1_build_1, by decide +kernel, tyX1_ok, nmX1, rfl, by decide +kernel⟩
theorem mf_X1_build_37 : MF wsX1_build RX1 37 1 3 := ⟨RX1, TX1, 4, rfl, by decide, mi_X1_build_1, by decide +kernel⟩
theorem mf_X1_build_9 : MF wsX1_build RX1 9 1 0 := ⟨RX1, TX1, 4, rfl, by decide, mi_X1_build_1, by decide +kernel⟩
theorem mf_X1_build_44 : MF wsX1_build RX1 44 6 0 := ⟨RX6, TX6, 6, rfl, by decide, mi_X1_build_6, by decide +kernel⟩
theorem mf_X1_build_47 : MF wsX1_build RX1 47 6 1 := ⟨RX6, TX6, 6, rfl, by decide, mi_X1_build_6, by decide +kernel⟩
theorem mf_X1_build_50 : MF wsX1_build RX1 50 6 2 := ⟨RX6, TX6, 6, rfl, by decide, mi_X1_build_6, by decide +kernel⟩
theorem mf_X1_build_15 : MF wsX1_build RX1 15 1 1 := ⟨RX1, TX1, 4, rfl, by decide, mi_X1_build_1, by decide +kernel⟩
abbrev rm_X1_build : Room := { frames := 1, cells := 0, slots := 0, locals := 20 }
set_option maxHeartbeats 4000000 in
set_option maxRecDepth 100000 in
theorem t_X1_build_58 {p : Program} {l : Launch} {e : Env} {s : State} {m : MethodId} {args : Array Value} {below : List Frame} {meth : Method} {c : Code} {X : GE} {M' : MM} (S : CX p s m args meth c cX1_build 6 wsX1_build RX1 none X) (k1 : Nat) (hk1 : hI X k1 60) : ∀ (n : Nat) (M : MM) (v2 : Int32) (v4 : Int32) (h : g_X1_build_58 k1 n M v2 v4 = some M'), V p l e (headSpec wsX1_build rm_X1_build).room s m args below meth c 6 X (MQ below (gQv X M') args s 0 0 (gA X)) M 58 [(0, .ref (X.2.2 20)), (1, .ref (X.2.2 k1)), (2, .int v2), (4, .int v4)] [] := by
  intro n
  induction n with
  | zero =>
    intro M v2 v4 h
    rw [g_X1_build_58] at h
    cases h
  | succ n ih =>
    intro M v2 v4 h
    rw [g_X1_build_58] at h
    refine gv_iload 58 S 3 dX1_build_58 rfl ?_
    refine gv_aload_n 60 S 0 0 dX1_build_60 rfl rfl ?_
    refine gv_get 61 S (hF_20_count X) mf_X1_build_37 dX1_build_61 ?_
    refine gv_icmp_ge 64 S 173 h dX1_build_64 (by decide) (fun h => ?_) (fun h => ?_)
    · exact gv_vret 173 S h dX1_build_173
    · refine gv_iload_n 67 S 2 2 dX1_build_67 rfl rfl ?_
      refine gv_iconst 68 S (4 : Int32) dX1_build_68 (by decide) ?_
      refine gv_iadd 69 S dX1_build_69 ?_
      refine gv_iload 70 S 3 dX1_build_70 rfl ?_
      refine gv_bipush 72 S (6 : Int32) dX1_build_72 (by decide) ?_
      refine gv_imul 74 S dX1_build_74 ?_
      refine gv_iadd 75 S dX1_build_75 ?_
      refine gv_nmi h (fun x5 h => ?_)
      refine gv_istore 76 S (lv' := [(5, .int x5), (0, .ref (X.2.2 20)), (1, .ref (X.2.2 k1)), (2, .int v2), (4, .int v4)]) dX1_build_76 (Nat.le_of_ble_eq_true rfl) rfl ?_
      refine gv_aload_n 78 S 0 1 dX1_build_78 rfl rfl ?_
      refine gv_get 79 S (hF_20_kind X) mf_X1_build_9 dX1_build_79 ?_
      refine gv_iload 82 S 4 dX1_build_82 rfl ?_
      refine gv_aload_n 84 S 1 2 dX1_build_84 rfl rfl ?_
      refine gv_iload 85 S 0 dX1_build_85 rfl ?_
      refine gv_iconst 87 S (1 : Int32) dX1_build_87 (by decide) ?_
      refine gv_iadd 88 S dX1_build_88 ?_
      refine gv_iald 89 S h hk1 dX1_build_89 (fun h => ?_)
      obtain ⟨r6, hc7, h⟩ := br_some h
      refine gv_cSi 90 S (As := [.int (M k1 (x5 + (1 : Int32)).toNatClampNeg)]) (rest := [.int v4, .ref (X.2.2 21)]) (c_X9_kindOf l X M (M k1 (x5 + (1 : Int32)).toNatClampNeg) r6 hc7) (va_cwS 1 S.1.2.2.2.2 gX1_build_X9_kindOf rfl rfl rfl (by decide +kernel) ⟨Nat.le_of_ble_eq_true rfl, Nat.le_of_ble_eq_true rfl⟩) rfl rfl (Nat.le_of_ble_eq_true rfl) dX1_build_90 ?_
      refine gv_iast 93 S h (hI_21 X) dX1_build_93 (fun M8 h => ?_)
      refine gv_aload_n 94 S 0 1 dX1_build_94 rfl rfl ?_
      refine gv_get 95 S (hF_20_now X) mf_X1_build_21 dX1_build_95 ?_
      refine gv_get 98 S (hF_23_load X) mf_X1_build_44 dX1_build_98 ?_
      refine gv_iload 101 S 4 dX1_build_101 rfl ?_
      refine gv_aload_n 103 S 1 2 dX1_build_103 rfl rfl ?_
      refine gv_iload 104 S 0 dX1_build_104 rfl ?_
      refine gv_iconst 106 S (2 : Int32) dX1_build_106 (by decide) ?_
      refine gv_iadd 107 S dX1_build_107 ?_
      refine gv_iald 108 S h hk1 dX1_build_108 (fun h => ?_)
      refine gv_bipush 109 S (48 : Int32) dX1_build_109 (by decide) ?_
      refine gv_isub 111 S dX1_build_111 ?_
      refine gv_iast 112 S h (hI_24 X) dX1_build_112 (fun M9 h => ?_)
      refine gv_aload_n 113 S 0 1 dX1_build_113 rfl rfl ?_
      refine gv_get 114 S (hF_20_now X) mf_X1_build_21 dX1_build_114 ?_
      refine gv_get 117 S (hF_23_bricks X) mf_X1_build_47 dX1_build_117 ?_
      refine gv_iload 120 S 4 dX1_build_120 rfl ?_
      refine gv_aload_n 122 S 1 2 dX1_build_122 rfl rfl ?_
      refine gv_iload 123 S 0 dX1_build_123 rfl ?_
      refine gv_iconst 125 S (3 : Int32) dX1_build_125 (by decide) ?_
      refine gv_iadd 126 S dX1_build_126 ?_
      refine gv_iald 127 S h hk1 dX1_build_127 (fun h => ?_)
      refine gv_bipush 128 S (48 : Int32) dX1_build_128 (by decide) ?_
      refine gv_isub 130 S dX1_build_130 ?_
      refine gv_iast 131 S h (hI_25 X) dX1_build_131 (fun M10 h => ?_)
      refine gv_aload_n 132 S 0 1 dX1_build_132 rfl rfl ?_
      refine gv_get 133 S (hF_20_now X) mf_X1_build_21 dX1_build_133 ?_
      refine gv_get 136 S (hF_23_height X) mf_X1_build_50 dX1_build_136 ?_
      refine gv_iload 139 S 4 dX1_build_139 rfl ?_
      refine gv_aload_n 141 S 1 2 dX1_build_141 rfl rfl ?_
      refine gv_iload 142 S 0 dX1_build_142 rfl ?_
      refine gv_iconst 144 S (4 : Int32) dX1_build_144 (by decide) ?_
      refine gv_iadd 145 S dX1_build_145 ?_
      refine gv_iald 146 S h hk1 dX1_build_146 (fun h => ?_)
      refine gv_bipush 147 S (48 : Int32) dX1_build_147 (by decide) ?_
      refine gv_isub 149 S dX1_build_149 ?_
      refine gv_iast 150 S h (hI_26 X) dX1_build_150 (fun M11 h => ?_)
      refine gv_aload_n 151 S 0 1 dX1_build_151 rfl rfl ?_
      refine gv_get 152 S (hF_20_drop X) mf_X1_build_15 dX1_build_152 ?_
      refine gv_iload 155 S 4 dX1_build_155 rfl ?_
      refine gv_aload_n 157 S 1 2 dX1_build_157 rfl rfl ?_
      refine gv_iload 158 S 0 dX1_build_158 rfl ?_
      refine gv_iconst 160 S (5 : Int32) dX1_build_160 (by decide) ?_
      refine gv_iadd 161 S dX1_build_161 ?_
      refine gv_iald 162 S h hk1 dX1_build_162 (fun h => ?_)
      refine gv_bipush 163 S (48 : Int32) dX1_build_163 (by decide) ?_
      refine gv_isub 165 S dX1_build_165 ?_
      refine gv_iast 166 S h (hI_22 X) dX1_build_166 (fun M12 h => ?_)
      refine gv_iinc 167 S 4 (v4 + (1 : Int32)) (lv' := [(4, .int (v4 + (1 : Int32))), (5, .int x5), (0, .ref (X.2.2 20)), (1, .ref (X.2.2 k1)), (2, .int v2)]) dX1_build_167 rfl rfl (Nat.le_of_ble_eq_true rfl) rfl ?_
      refine gv_goto 170 S 58 dX1_build_170 (by decide) ?_
      exact gv_sub [2, 3, 4, 0] rfl (ih M12 v2 (v4 + (1 : Int32)) h)
set_option maxHeartbeats 4000000 in
set_option maxRecDepth 100000 in
theorem c_X1_build (l : Launch) (X : GE) (M : MM) (k1 : Nat) (v2 : Int32) (v3 : Int32) (hk1 : hI X k1 60) (M' : MM) (h : f_X1_build M k1 v2 v3 = some M') : CTv l yX1_build wsX1_build rm_X1_build X [.ref (X.2.2 20), .ref (X.2.2 k1), .int v2, .int v3] M M' := by
  refine ct_v (own := RX1) (by decide +kernel) rfl rfl (Nat.le_of_ble_eq_true rfl) (lv0 := [(0, .ref (X.2.2 20)), (1, .ref (X.2.2 k1)), (2, .int v2), (3, .int v3)]) rfl ?_
  intro p e s m args below meth c S
  unfold f_X1_build at h
  refine gv_aload_n 0 S 0 0 dX1_build_0 rfl rfl ?_
  refine gv_get 1 S (hF_20_now X) mf_X1_build_21 dX1_build_1 ?_
  refine gv_aload_n 4 S 1 1 dX1_build_4 rfl rfl ?_
  refine gv_iload_n 5 S 2 2 dX1_build_5 rfl rfl ?_
  refine gv_iconst 6 S (1 : Int32) dX1_build_6 (by decide) ?_
  refine gv_iadd 7 S dX1_build_7 ?_
  refine gv_iald 8 S h hk1 dX1_build_8 (fun h => ?_)
  refine gv_bipush 9 S (48 : Int32) dX1_build_9 (by decide) ?_
  refine gv_isub 11 S dX1_build_11 ?_
  refine gv_put 12 S h (hP_23_hands X) mp_X1_build_25 rfl rfl dX1_build_12 (fun M1 h => ?_)
  refine gv_aload_n 15 S 0 0 dX1_build_15 rfl rfl ?_
  refine gv_get 16 S (hF_20_now X) mf_X1_build_21 dX1_build_16 ?_
  refine gv_aload_n 19 S 1 1 dX1_build_19 rfl rfl ?_
  refine gv_iload_n 20 S 2 2 dX1_build_20 rfl rfl ?_
  refine gv_iconst 21 S (2 : Int32) dX1_build_21 (by decide) ?_
  refine gv_iadd 22 S dX1_build_22 ?_
  refine gv_iald 23 S h hk1 dX1_build_23 (fun h => ?_)
  refine gv_bipush 24 S (48 : Int32) dX1_build_24 (by decide) ?_
  refine gv_isub 26 S dX1_build_26 ?_
  refine gv_put 27 S h (hP_23_trim X) mp_X1_build_29 rfl rfl dX1_build_27 (fun M2 h => ?_)
  refine gv_aload_n 30 S 0 0 dX1_build_30 rfl rfl ?_
  refine gv_get 31 S (hF_20_now X) mf_X1_build_21 dX1_build_31 ?_
  refine gv_aload_n 34 S 1 1 dX1_build_34 rfl rfl ?_
  refine gv_iload_n 35 S 2 2 dX1_build_35 rfl rfl ?_
  refine gv_iconst 36 S (3 : Int32) dX1_build_36 (by decide) ?_
  refine gv_iadd 37 S dX1_build_37 ?_
  refine gv_iald 38 S h hk1 dX1_build_38 (fun h => ?_)
  refine gv_bipush 39 S (48 : Int32) dX1_build_39 (by decide) ?_
  refine gv_isub 41 S dX1_build_41 ?_
  refine gv_put 42 S h (hP_23_stock X) mp_X1_build_32 rfl rfl dX1_build_42 (fun M3 h => ?_)
  refine gv_aload_n 45 S 0 0 dX1_build_45 rfl rfl ?_
  refine gv_iload_n 46 S 3 3 dX1_build_46 rfl rfl ?_
  refine gv_iconst 47 S (4 : Int32) dX1_build_47 (by decide) ?_
  refine gv_isub 48 S dX1_build_48 ?_
  refine gv_bipush 49 S (6 : Int32) dX1_build_49 (by decide) ?_
  refine gv_idiv 51 S (by decide) dX1_build_51 ?_
  refine gv_put 52 S h (hP_20_count X) mp_X1_build_37 rfl rfl dX1_build_52 (fun M4 h => ?_)
  refine gv_iconst 55 S (0 : Int32) dX1_build_55 (by decide) ?_
  refine gv_istore 56 S (lv' := [(4, .int (0 : Int32)), (0, .ref (X.2.2 20)), (1, .ref (X.2.2 k1)), (2, .int v2), (3, .int v3)]) dX1_build_56 (Nat.le_of_ble_eq_true rfl) rfl ?_
  exact gv_sub [1, 2, 3, 0] rfl (t_X1_build_58 S k1 hk1 FU M4 v2 (0 : Int32) h)
theorem mi_X1_has_1 : ∀ w ∈ u_ws RX1 TX1 4, w ∈ wsX1_has := by decide +kernel
theorem mf_X1_has_37 : MF wsX1_has RX1 37 1 3 := ⟨RX1, TX1, 4, rfl, by decide, mi_X1_has_1, by decide +kernel⟩
abbrev rm_X1_has : Room := { frames := 0, cells := 0, slots := 0, locals := 0 }
set_option maxHeartbeats 4000000 in
set_option maxRecDepth 100000 in
theorem c_X1_has (l : Launch) (X : GE) (M : MM) (v1 : Int32) (r : Int32) (h : f_X1_has M v1 = some r) : CTi l yX1_has wsX1_has rm_X1_has X [.ref (X.2.2 20), .int v1] M r M := by
  refine ct_i (own := RX1) (by decide +kernel) rfl rfl (Nat.le_of_ble_eq_true rfl) (lv0 := [(0, .ref (X.2.2 20)), (1, .int v1)]) rfl ?_
  intro p e s m args below meth c S
  unfold f_X1_has at h
  refine gv_iload_n 0 S 1 1 dX1_has_0 rfl rfl ?_
  refine gv_if_lt 1 S 16 h dX1_has_1 (by decide) (fun h => ?_) (fun h => ?_)
  · refine gv_iconst 16 S (0 : Int32) dX1_has_16 (by decide) ?_
    exact gv_zretR 17 S h rfl dX1_has_17
  · refine gv_iload_n 4 S 1 1 dX1_has_4 rfl rfl ?_
    refine gv_aload_n 5 S 0 0 dX1_has_5 rfl rfl ?_
    refine gv_get 6 S (hF_20_count X) mf_X1_has_37 dX1_has_6 ?_
    refine gv_icmp_ge 9 S 16 h dX1_has_9 (by decide) (fun h => ?_) (fun h => ?_)
    · refine gv_iconst 16 S (0 : Int32) dX1_has_16 (by decide) ?_
      exact gv_zretR 17 S h rfl dX1_has_17
    · refine gv_iconst 12 S (1 : Int32) dX1_has_12 (by decide) ?_
      refine gv_goto 13 S 17 dX1_has_13 (by decide) ?_
      exact gv_zretR 17 S h rfl dX1_has_17
theorem mi_X1_edge_1 : ∀ w ∈ u_ws RX1 TX1 4, w ∈ wsX1_edge := by decide +kernel
theorem mf_X1_edge_15 : MF wsX1_edge RX1 15 1 1 := ⟨RX1, TX1, 4, rfl, by decide, mi_X1_edge_1, by decide +kernel⟩
abbrev rm_X1_edge : Room := { frames := 1, cells := 0, slots := 0, locals := 13 }
set_option maxHeartbeats 4000000 in
set_option maxRecDepth 100000 in
theorem c_X1_edge (l : Launch) (X : GE) (M : MM) (v1 : Int32) (v2 : Int32) (r : Int32) (h : f_X1_edge M v1 v2 = some r) : CTi l yX1_edge wsX1_edge rm_X1_edge X [.ref (X.2.2 20), .int v1, .int v2] M r M := by
  refine ct_i (own := RX1) (by decide +kernel) rfl rfl (Nat.le_of_ble_eq_true rfl) (lv0 := [(0, .ref (X.2.2 20)), (1, .int v1), (2, .int v2)]) rfl ?_
  intro p e s m args below meth c S
  unfold f_X1_edge at h
  refine gv_iload_n 0 S 2 2 dX1_edge_0 rfl rfl ?_
  refine gv_aload_n 1 S 0 0 dX1_edge_1 rfl rfl ?_
  refine gv_get 2 S (hF_20_drop X) mf_X1_edge_15 dX1_edge_2 ?_
  refine gv_iload_n 5 S 1 1 dX1_edge_5 rfl rfl ?_
  refine gv_iald 6 S h (hI_22 X) dX1_edge_6 (fun h => ?_)
  refine gv_isub 7 S dX1_edge_7 ?_
  refine gv_iconst 8 S (0 : Int32) dX1_edge_8 (by decide) ?_
  refine gv_mmax 9 S (by decide +kernel) (by decide +kernel) (by decide +kernel) (by decide +kernel) (Nat.le_of_ble_eq_true rfl) (Nat.le_of_ble_eq_true rfl) dX1_edge_9 ?_
  exact gv_iretR 12 S h dX1_edge_12
theorem mi_X1_seenAt_1 : ∀ w ∈ u_ws RX1 TX1 4, w ∈ wsX1_seenAt := by decide +kernel
theorem mf_X1_seenAt_21 : MF wsX1_seenAt RX1 21 1 2 := ⟨RX1, TX1, 4, rfl, by decide, mi_X1_seenAt_1, by decide +kernel⟩
theorem mi_X1_seenAt_6 : ∀ w ∈ u_ws RX6 TX6 6, w ∈ wsX1_seenAt := by decide +kernel
theorem mf_X1_seenAt_29 : MF wsX1_seenAt RX1 29 6 5 := ⟨RX6, TX6, 6, rfl, by decide, mi_X1_seenAt_6, by decide +kernel⟩
theorem mf_X1_seenAt_37 : MF wsX1_seenAt RX1 37 1 3 := ⟨RX1, TX1, 4, rfl, by decide, mi_X1_seenAt_1, by decide +kernel⟩
abbrev rm_X1_seenAt : Room := { frames := 2, cells := 0, slots := 0, locals := 35 }
set_option maxHeartbeats 4000000 in
set_option maxRecDepth 100000 in
theorem t_X1_seenAt_13 {p : Program} {l : Launch} {e : Env} {s : State} {m : MethodId} {args : Array Value} {below : List Frame} {meth : Method} {c : Code} {X : GE} {M : MM} {r : Int32} (S : CX p s m args meth c cX1_seenAt 6 wsX1_seenAt RX1 (some .int) X) (k1 : Nat) (hk1 : hI X k1 8) : ∀ (n : Nat) (v2 : Int32) (v3 : Int32) (v4 : Int32) (h : g_X1_seenAt_13 M k1 n v2 v3 v4 = some r), V p l e (headSpec wsX1_seenAt rm_X1_seenAt).room s m args below meth c 6 X (MQ below (gQi X r M) args s 0 0 (gA X)) M 13 [(0, .ref (X.2.2 20)), (1, .ref (X.2.2 k1)), (2, .int v2), (3, .int v3), (4, .int v4)] [] := by
  intro n
  induction n with
  | zero =>
    intro v2 v3 v4 h
    rw [g_X1_seenAt_13] at h
    cases h
  | succ n ih =>
    intro v2 v3 v4 h
    rw [g_X1_seenAt_13] at h
    refine gv_iload 13 S 4 dX1_seenAt_13 rfl ?_
    refine gv_aload_n 15 S 0 0 dX1_seenAt_15 rfl rfl ?_
    refine gv_get 16 S (hF_20_count X) mf_X1_seenAt_37 dX1_seenAt_16 ?_
    refine gv_icmp_ge 19 S 56 h dX1_seenAt_19 (by decide) (fun h => ?_) (fun h => ?_)
    · refine gv_iload_n 56 S 2 2 dX1_seenAt_56 rfl rfl ?_
      exact gv_iretR 57 S h dX1_seenAt_57
    · refine gv_aload_n 22 S 0 0 dX1_seenAt_22 rfl rfl ?_
      refine gv_iload 23 S 4 dX1_seenAt_23 rfl ?_
      refine gv_aload_n 25 S 1 1 dX1_seenAt_25 rfl rfl ?_
      refine gv_iload 26 S 4 dX1_seenAt_26 rfl ?_
      refine gv_iald 28 S h hk1 dX1_seenAt_28 (fun h => ?_)
      obtain ⟨r2, hc3, h⟩ := br_some h
      refine gv_cVi 29 S (As := [.int v4, .int (M k1 v4.toNatClampNeg)]) (rest := []) (c_X1_edge l X M v4 (M k1 v4.toNatClampNeg) r2 hc3) (hO_20 X) rfl (cwV 2 S.1.2.2.2.2 gX1_seenAt_X1_edge rfl rfl rfl (by decide +kernel) ⟨Nat.le_of_ble_eq_true rfl, Nat.le_of_ble_eq_true rfl⟩) rfl rfl (Nat.le_of_ble_eq_true rfl) dX1_seenAt_29 ?_
      refine gv_istore 32 S (lv' := [(5, .int r2), (0, .ref (X.2.2 20)), (1, .ref (X.2.2 k1)), (2, .int v2), (3, .int v3), (4, .int v4)]) dX1_seenAt_32 (Nat.le_of_ble_eq_true rfl) rfl ?_
      refine gv_iload 34 S 0 dX1_seenAt_34 rfl ?_
      refine gv_iload_n 36 S 3 4 dX1_seenAt_36 rfl rfl ?_
      refine gv_icmp_ge 37 S 50 h dX1_seenAt_37 (by decide) (fun h => ?_) (fun h => ?_)
      · refine gv_iinc 50 S 5 (v4 + (1 : Int32)) (lv' := [(4, .int (v4 + (1 : Int32))), (5, .int r2), (0, .ref (X.2.2 20)), (1, .ref (X.2.2 k1)), (2, .int v2), (3, .int v3)]) dX1_seenAt_50 rfl rfl (Nat.le_of_ble_eq_true rfl) rfl ?_
        refine gv_goto 53 S 13 dX1_seenAt_53 (by decide) ?_
        exact gv_sub [2, 3, 4, 5, 0] rfl (ih v2 v3 (v4 + (1 : Int32)) h)
      · refine gv_iload_n 40 S 2 3 dX1_seenAt_40 rfl rfl ?_
        refine gv_iconst 41 S (1 : Int32) dX1_seenAt_41 (by decide) ?_
        refine gv_iload 42 S 5 dX1_seenAt_42 rfl ?_
        refine gv_ishl 44 S dX1_seenAt_44 ?_
        refine gv_ior 45 S dX1_seenAt_45 ?_
        refine gv_nmi h (fun x4 h => ?_)
        refine gv_istore_n 46 S 2 (lv' := [(2, .int x4), (5, .int r2), (0, .ref (X.2.2 20)), (1, .ref (X.2.2 k1)), (3, .int v3), (4, .int v4)]) dX1_seenAt_46 rfl (Nat.le_of_ble_eq_true rfl) rfl ?_
        refine gv_iload 47 S 1 dX1_seenAt_47 rfl ?_
        refine gv_istore_n 49 S 3 (lv' := [(3, .int r2), (2, .int x4), (5, .int r2), (0, .ref (X.2.2 20)), (1, .ref (X.2.2 k1)), (4, .int v4)]) dX1_seenAt_49 rfl (Nat.le_of_ble_eq_true rfl) rfl ?_
        refine gv_iinc 50 S 5 (v4 + (1 : Int32)) (lv' := [(4, .int (v4 + (1 : Int32))), (3, .int r2), (2, .int x4), (5, .int r2), (0, .ref (X.2.2 20)), (1, .ref (X.2.2 k1))]) dX1_seenAt_50 rfl rfl (Nat.le_of_ble_eq_true rfl) rfl ?_
        refine gv_goto 53 S 13 dX1_seenAt_53 (by decide) ?_
        exact gv_sub [4, 5, 2, 1, 0] rfl (ih x4 r2 (v4 + (1 : Int32)) h)
set_option maxHeartbeats 4000000 in
set_option maxRecDepth 100000 in
theorem c_X1_seenAt (l : Launch) (X : GE) (M : MM) (k1 : Nat) (hk1 : hI X k1 8) (r : Int32) (h : f_X1_seenAt M k1 = some r) : CTi l yX1_seenAt wsX1_seenAt rm_X1_seenAt X [.ref (X.2.2 20), .ref (X.2.2 k1)] M r M := by
  refine ct_i (own := RX1) (by decide +kernel) rfl rfl (Nat.le_of_ble_eq_true rfl) (lv0 := [(0, .ref (X.2.2 20)), (1, .ref (X.2.2 k1))]) rfl ?_
  intro p e s m args below meth c S
  unfold f_X1_seenAt at h
  refine gv_iconst 0 S (0 : Int32) dX1_seenAt_0 (by decide) ?_
  refine gv_istore_n 1 S 2 (lv' := [(2, .int (0 : Int32)), (0, .ref (X.2.2 20)), (1, .ref (X.2.2 k1))]) dX1_seenAt_1 rfl (Nat.le_of_ble_eq_true rfl) rfl ?_
  refine gv_aload_n 2 S 0 1 dX1_seenAt_2 rfl rfl ?_
  refine gv_get 3 S (hF_20_now X) mf_X1_seenAt_21 dX1_seenAt_3 ?_
  refine gv_get 6 S (hF_23_trim X) mf_X1_seenAt_29 dX1_seenAt_6 ?_
  refine gv_nmi h (fun x1 h => ?_)
  refine gv_istore_n 9 S 3 (lv' := [(3, .int x1), (2, .int (0 : Int32)), (0, .ref (X.2.2 20)), (1, .ref (X.2.2 k1))]) dX1_seenAt_9 rfl (Nat.le_of_ble_eq_true rfl) rfl ?_
  refine gv_iconst 10 S (0 : Int32) dX1_seenAt_10 (by decide) ?_
  refine gv_istore 11 S (lv' := [(4, .int (0 : Int32)), (3, .int x1), (2, .int (0 : Int32)), (0, .ref (X.2.2 20)), (1, .ref (X.2.2 k1))]) dX1_seenAt_11 (Nat.le_of_ble_eq_true rfl) rfl ?_
  exact gv_sub [3, 4, 2, 1, 0] rfl (t_X1_seenAt_13 S k1 hk1 FU (0 : Int32) x1 (0 : Int32) h)
theorem mi_X1_hiderOf_1 : ∀ w ∈ u_ws RX1 TX1 4, w ∈ wsX1_hiderOf := by decide +kernel
theorem mf_X1_hiderOf_21 : MF wsX1_hiderOf RX1 21 1 2 := ⟨RX1, TX1, 4, rfl, by decide, mi_X1_hiderOf_1, by decide +kernel⟩
theorem mi_X1_hiderOf_6 : ∀ w ∈ u_ws RX6 TX6 6, w ∈ wsX1_hiderOf := by decide +kernel
theorem mf_X1_hiderOf_50 : MF wsX1_hiderOf RX1 50 6 2 := ⟨RX6, TX6, 6, rfl, by decide, mi_X1_hiderOf_6, by decide +kernel⟩
theorem mf_X1_hiderOf_29 : MF wsX1_hiderOf RX1 29 6 5 := ⟨RX6, TX6, 6, rfl, by decide, mi_X1_hiderOf_6, by decide +kernel⟩
abbrev rm_X1_hiderOf : Room := { frames := 2, cells := 0, slots := 0, locals := 35 }
set_option maxHeartbeats 4000000 in
set_option maxRecDepth 100000 in
theorem t_X1_hiderOf_31 {p : Program} {l : Launch} {e : Env} {s : State} {m : MethodId} {args : Array Value} {below : List Frame} {meth : Method} {c : Code} {X : GE} {M : MM} {r : Int32} (S : CX p s m args meth c cX1_hiderOf 4 wsX1_hiderOf RX1 (some .int) X) : ∀ (n : Nat) (v1 : Int32) (v2 : Int32) (v3 : Int32) (h : g_X1_hiderOf_31 M n v1 v2 v3 = some r), V p l e (headSpec wsX1_hiderOf rm_X1_hiderOf).room s m args below meth c 4 X (MQ below (gQi X r M) args s 0 0 (gA X)) M 31 [(0, .ref (X.2.2 20)), (1, .int v1), (2, .int v2), (3, .int v3)] [] := by
  intro n
  induction n with
  | zero =>
    intro v1 v2 v3 h
    rw [g_X1_hiderOf_31] at h
    cases h
  | succ n ih =>
    intro v1 v2 v3 h
    rw [g_X1_hiderOf_31] at h
    refine gv_iload_n 31 S 3 3 dX1_hiderOf_31 rfl rfl ?_
    refine gv_iload_n 32 S 1 1 dX1_hiderOf_32 rfl rfl ?_
    refine gv_icmp_ge 33 S 62 h dX1_hiderOf_33 (by decide) (fun h => ?_) (fun h => ?_)
    · refine gv_bipush 62 S (-9 : Int32) dX1_hiderOf_62 (by decide) ?_
      exact gv_iretR 64 S h dX1_hiderOf_64
    · refine gv_aload_n 36 S 0 0 dX1_hiderOf_36 rfl rfl ?_
      refine gv_iload_n 37 S 3 3 dX1_hiderOf_37 rfl rfl ?_
      refine gv_aload_n 38 S 0 0 dX1_hiderOf_38 rfl rfl ?_
      refine gv_get 39 S (hF_20_now X) mf_X1_hiderOf_21 dX1_hiderOf_39 ?_
      refine gv_get 42 S (hF_23_height X) mf_X1_hiderOf_50 dX1_hiderOf_42 ?_
      refine gv_iload_n 45 S 3 3 dX1_hiderOf_45 rfl rfl ?_
      refine gv_iald 46 S h (hI_26 X) dX1_hiderOf_46 (fun h => ?_)
      obtain ⟨r3, hc4, h⟩ := br_some h
      refine gv_cVi 47 S (As := [.int v3, .int (M 26 v3.toNatClampNeg)]) (rest := []) (c_X1_edge l X M v3 (M 26 v3.toNatClampNeg) r3 hc4) (hO_20 X) rfl (cwV 2 S.1.2.2.2.2 gX1_hiderOf_X1_edge rfl rfl rfl (by decide +kernel) ⟨Nat.le_of_ble_eq_true rfl, Nat.le_of_ble_eq_true rfl⟩) rfl rfl (Nat.le_of_ble_eq_true rfl) dX1_hiderOf_47 ?_
      refine gv_iload_n 50 S 2 2 dX1_hiderOf_50 rfl rfl ?_
      refine gv_icmp_gt 51 S 56 h dX1_hiderOf_51 (by decide) (fun h => ?_) (fun h => ?_)
      · refine gv_iinc 56 S 3 (v3 + (1 : Int32)) (lv' := [(3, .int (v3 + (1 : Int32))), (0, .ref (X.2.2 20)), (1, .int v1), (2, .int v2)]) dX1_hiderOf_56 rfl rfl (Nat.le_of_ble_eq_true rfl) rfl ?_
        refine gv_goto 59 S 31 dX1_hiderOf_59 (by decide) ?_
        exact gv_sub [1, 2, 3, 0] rfl (ih v1 v2 (v3 + (1 : Int32)) h)
      · refine gv_iload_n 54 S 3 3 dX1_hiderOf_54 rfl rfl ?_
        exact gv_iretR 55 S h dX1_hiderOf_55
set_option maxHeartbeats 4000000 in
set_option maxRecDepth 100000 in
theorem c_X1_hiderOf (l : Launch) (X : GE) (M : MM) (v1 : Int32) (r : Int32) (h : f_X1_hiderOf M v1 = some r) : CTi l yX1_hiderOf wsX1_hiderOf rm_X1_hiderOf X [.ref (X.2.2 20), .int v1] M r M := by
  refine ct_i (own := RX1) (by decide +kernel) rfl rfl (Nat.le_of_ble_eq_true rfl) (lv0 := [(0, .ref (X.2.2 20)), (1, .int v1)]) rfl ?_
  intro p e s m args below meth c S
  unfold f_X1_hiderOf at h
  refine gv_aload_n 0 S 0 0 dX1_hiderOf_0 rfl rfl ?_
  refine gv_iload_n 1 S 1 1 dX1_hiderOf_1 rfl rfl ?_
  refine gv_aload_n 2 S 0 0 dX1_hiderOf_2 rfl rfl ?_
  refine gv_get 3 S (hF_20_now X) mf_X1_hiderOf_21 dX1_hiderOf_3 ?_
  refine gv_get 6 S (hF_23_height X) mf_X1_hiderOf_50 dX1_hiderOf_6 ?_
  refine gv_iload_n 9 S 1 1 dX1_hiderOf_9 rfl rfl ?_
  refine gv_iald 10 S h (hI_26 X) dX1_hiderOf_10 (fun h => ?_)
  obtain ⟨r1, hc2, h⟩ := br_some h
  refine gv_cVi 11 S (As := [.int v1, .int (M 26 v1.toNatClampNeg)]) (rest := []) (c_X1_edge l X M v1 (M 26 v1.toNatClampNeg) r1 hc2) (hO_20 X) rfl (cwV 2 S.1.2.2.2.2 gX1_hiderOf_X1_edge rfl rfl rfl (by decide +kernel) ⟨Nat.le_of_ble_eq_true rfl, Nat.le_of_ble_eq_true rfl⟩) rfl rfl (Nat.le_of_ble_eq_true rfl) dX1_hiderOf_11 ?_
  refine gv_istore_n 14 S 2 (lv' := [(2, .int r1), (0, .ref (X.2.2 20)), (1, .int v1)]) dX1_hiderOf_14 rfl (Nat.le_of_ble_eq_true rfl) rfl ?_
  refine gv_iload_n 15 S 2 0 dX1_hiderOf_15 rfl rfl ?_
  refine gv_aload_n 16 S 0 1 dX1_hiderOf_16 rfl rfl ?_
  refine gv_get 17 S (hF_20_now X) mf_X1_hiderOf_21 dX1_hiderOf_17 ?_
  refine gv_get 20 S (hF_23_trim X) mf_X1_hiderOf_29 dX1_hiderOf_20 ?_
  refine gv_icmp_lt 23 S 29 h dX1_hiderOf_23 (by decide) (fun h => ?_) (fun h => ?_)
  · refine gv_iconst 29 S (0 : Int32) dX1_hiderOf_29 (by decide) ?_
    refine gv_istore_n 30 S 3 (lv' := [(3, .int (0 : Int32)), (2, .int r1), (0, .ref (X.2.2 20)), (1, .int v1)]) dX1_hiderOf_30 rfl (Nat.le_of_ble_eq_true rfl) rfl ?_
    exact gv_sub [2, 3, 1, 0] rfl (t_X1_hiderOf_31 S FU v1 r1 (0 : Int32) h)
  · refine gv_bipush 26 S (-9 : Int32) dX1_hiderOf_26 (by decide) ?_
    exact gv_iretR 28 S h dX1_hiderOf_28
theorem mi_X1_isSeenAmongUp_1 : ∀ w ∈ u_ws RX1 TX1 4, w ∈ wsX1_isSeenAmongUp := by decide +kernel
theorem mf_X1_isSeenAmongUp_21 : MF wsX1_isSeenAmongUp RX1 21 1 2 := ⟨RX1, TX1, 4, rfl, by decide, mi_X1_isSeenAmongUp_1, by decide +kernel⟩
theorem mi_X1_isSeenAmongUp_6 : ∀ w ∈ u_ws RX6 TX6 6, w ∈ wsX1_isSeenAmongUp := by decide +kernel
theorem mf_X1_isSeenAmongUp_29 : MF wsX1_isSeenAmongUp RX1 29 6 5 := ⟨RX6, TX6, 6, rfl, by decide, mi_X1_isSeenAmongUp_6, by decide +kernel⟩
abbrev rm_X1_isSeenAmongUp : Room := { frames := 2, cells := 0, slots := 0, locals := 35 }
set_option maxHeartbeats 4000000 in
set_option maxRecDepth 100000 in
theorem t_X1_isSeenAmongUp_10 {p : Program} {l : Launch} {e : Env} {s : State} {m : MethodId} {args : Array Value} {below : List Frame} {meth : Method} {c : Code} {X : GE} {M : MM} {r : Int32} (S : CX p s m args meth c cX1_isSeenAmongUp 4 wsX1_isSeenAmongUp RX1 (some .boolean) X) : ∀ (n : Nat) (v1 : Int32) (v2 : Int32) (v3 : Int32) (h : g_X1_isSeenAmongUp_10 M n v1 v2 v3 = some r), V p l e (headSpec wsX1_isSeenAmongUp rm_X1_isSeenAmongUp).room s m args below meth c 4 X (MQ below (gQi X r M) args s 0 0 (gA X)) M 10 [(0, .ref (X.2.2 20)), (1, .int v1), (2, .int v2), (3, .int v3)] [] := by
  intro n
  induction n with
  | zero =>
    intro v1 v2 v3 h
    rw [g_X1_isSeenAmongUp_10] at h
    cases h
  | succ n ih =>
    intro v1 v2 v3 h
    rw [g_X1_isSeenAmongUp_10] at h
    refine gv_iload_n 10 S 3 3 dX1_isSeenAmongUp_10 rfl rfl ?_
    refine gv_iload_n 11 S 1 1 dX1_isSeenAmongUp_11 rfl rfl ?_
    refine gv_icmp_ge 12 S 34 h dX1_isSeenAmongUp_12 (by decide) (fun h => ?_) (fun h => ?_)
    · refine gv_iload_n 34 S 2 2 dX1_isSeenAmongUp_34 rfl rfl ?_
      refine gv_aload_n 35 S 0 0 dX1_isSeenAmongUp_35 rfl rfl ?_
      refine gv_get 36 S (hF_20_now X) mf_X1_isSeenAmongUp_21 dX1_isSeenAmongUp_36 ?_
      refine gv_get 39 S (hF_23_trim X) mf_X1_isSeenAmongUp_29 dX1_isSeenAmongUp_39 ?_
      refine gv_icmp_ge 42 S 49 h dX1_isSeenAmongUp_42 (by decide) (fun h => ?_) (fun h => ?_)
      · refine gv_iconst 49 S (0 : Int32) dX1_isSeenAmongUp_49 (by decide) ?_
        exact gv_zretR 50 S h rfl dX1_isSeenAmongUp_50
      · refine gv_iconst 45 S (1 : Int32) dX1_isSeenAmongUp_45 (by decide) ?_
        refine gv_goto 46 S 50 dX1_isSeenAmongUp_46 (by decide) ?_
        exact gv_zretR 50 S h rfl dX1_isSeenAmongUp_50
    · refine gv_aload_n 15 S 0 0 dX1_isSeenAmongUp_15 rfl rfl ?_
      refine gv_iload_n 16 S 3 3 dX1_isSeenAmongUp_16 rfl rfl ?_
      refine gv_bipush 17 S (9 : Int32) dX1_isSeenAmongUp_17 (by decide) ?_
      obtain ⟨r3, hc4, h⟩ := br_some h
      refine gv_cVi 19 S (As := [.int v3, .int (9 : Int32)]) (rest := []) (c_X1_edge l X M v3 (9 : Int32) r3 hc4) (hO_20 X) rfl (cwV 2 S.1.2.2.2.2 gX1_isSeenAmongUp_X1_edge rfl rfl rfl (by decide +kernel) ⟨Nat.le_of_ble_eq_true rfl, Nat.le_of_ble_eq_true rfl⟩) rfl rfl (Nat.le_of_ble_eq_true rfl) dX1_isSeenAmongUp_19 ?_
      refine gv_iload_n 22 S 2 2 dX1_isSeenAmongUp_22 rfl rfl ?_
      refine gv_icmp_gt 23 S 28 h dX1_isSeenAmongUp_23 (by decide) (fun h => ?_) (fun h => ?_)
      · refine gv_iinc 28 S 3 (v3 + (1 : Int32)) (lv' := [(3, .int (v3 + (1 : Int32))), (0, .ref (X.2.2 20)), (1, .int v1), (2, .int v2)]) dX1_isSeenAmongUp_28 rfl rfl (Nat.le_of_ble_eq_true rfl) rfl ?_
        refine gv_goto 31 S 10 dX1_isSeenAmongUp_31 (by decide) ?_
        exact gv_sub [1, 2, 3, 0] rfl (ih v1 v2 (v3 + (1 : Int32)) h)
      · refine gv_iconst 26 S (0 : Int32) dX1_isSeenAmongUp_26 (by decide) ?_
        exact gv_zretR 27 S h rfl dX1_isSeenAmongUp_27
set_option maxHeartbeats 4000000 in
set_option maxRecDepth 100000 in
theorem c_X1_isSeenAmongUp (l : Launch) (X : GE) (M : MM) (v1 : Int32) (r : Int32) (h : f_X1_isSeenAmongUp M v1 = some r) : CTi l yX1_isSeenAmongUp wsX1_isSeenAmongUp rm_X1_isSeenAmongUp X [.ref (X.2.2 20), .int v1] M r M := by
  refine ct_i (own := RX1) (by decide +kernel) rfl rfl (Nat.le_of_ble_eq_true rfl) (lv0 := [(0, .ref (X.2.2 20)), (1, .int v1)]) rfl ?_
  intro p e s m args below meth c S
  unfold f_X1_isSeenAmongUp at h
  refine gv_aload_n 0 S 0 0 dX1_isSeenAmongUp_0 rfl rfl ?_
  refine gv_iload_n 1 S 1 1 dX1_isSeenAmongUp_1 rfl rfl ?_
  refine gv_bipush 2 S (9 : Int32) dX1_isSeenAmongUp_2 (by decide) ?_
  obtain ⟨r1, hc2, h⟩ := br_some h
  refine gv_cVi 4 S (As := [.int v1, .int (9 : Int32)]) (rest := []) (c_X1_edge l X M v1 (9 : Int32) r1 hc2) (hO_20 X) rfl (cwV 2 S.1.2.2.2.2 gX1_isSeenAmongUp_X1_edge rfl rfl rfl (by decide +kernel) ⟨Nat.le_of_ble_eq_true rfl, Nat.le_of_ble_eq_true rfl⟩) rfl rfl (Nat.le_of_ble_eq_true rfl) dX1_isSeenAmongUp_4 ?_
  refine gv_istore_n 7 S 2 (lv' := [(2, .int r1), (0, .ref (X.2.2 20)), (1, .int v1)]) dX1_isSeenAmongUp_7 rfl (Nat.le_of_ble_eq_true rfl) rfl ?_
  refine gv_iconst 8 S (0 : Int32) dX1_isSeenAmongUp_8 (by decide) ?_
  refine gv_istore_n 9 S 3 (lv' := [(3, .int (0 : Int32)), (2, .int r1), (0, .ref (X.2.2 20)), (1, .int v1)]) dX1_isSeenAmongUp_9 rfl (Nat.le_of_ble_eq_true rfl) rfl ?_
  exact gv_sub [2, 3, 1, 0] rfl (t_X1_isSeenAmongUp_10 S FU v1 r1 (0 : Int32) h)
theorem mi_X1_beats_1 : ∀ w ∈ u_ws RX1 TX1 4, w ∈ wsX1_beats := by decide +kernel
theorem mf_X1_beats_37 : MF wsX1_beats RX1 37 1 3 := ⟨RX1, TX1, 4, rfl, by decide, mi_X1_beats_1, by decide +kernel⟩
abbrev rm_X1_beats : Room := { frames := 1, cells := 0, slots := 0, locals := 14 }
set_option maxHeartbeats 4000000 in
set_option maxRecDepth 100000 in
theorem t_X1_beats_5 {p : Program} {l : Launch} {e : Env} {s : State} {m : MethodId} {args : Array Value} {below : List Frame} {meth : Method} {c : Code} {X : GE} {M : MM} {r : Int32} (S : CX p s m args meth c cX1_beats 5 wsX1_beats RX1 (some .int) X) (k1 : Nat) (k2 : Nat) (hk1 : hI X k1 8) (hk2 : hI X k2 8) : ∀ (n : Nat) (v3 : Int32) (v4 : Int32) (h : g_X1_beats_5 M k1 k2 n v3 v4 = some r), V p l e (headSpec wsX1_beats rm_X1_beats).room s m args below meth c 5 X (MQ below (gQi X r M) args s 0 0 (gA X)) M 5 [(0, .ref (X.2.2 20)), (1, .ref (X.2.2 k1)), (2, .ref (X.2.2 k2)), (3, .int v3), (4, .int v4)] [] := by
  intro n
  induction n with
  | zero =>
    intro v3 v4 h
    rw [g_X1_beats_5] at h
    cases h
  | succ n ih =>
    intro v3 v4 h
    rw [g_X1_beats_5] at h
    refine gv_iload 5 S 4 dX1_beats_5 rfl ?_
    refine gv_aload_n 7 S 0 0 dX1_beats_7 rfl rfl ?_
    refine gv_get 8 S (hF_20_count X) mf_X1_beats_37 dX1_beats_8 ?_
    refine gv_icmp_ge 11 S 37 h dX1_beats_11 (by decide) (fun h => ?_) (fun h => ?_)
    · refine gv_iload_n 37 S 3 3 dX1_beats_37 rfl rfl ?_
      exact gv_iretR 38 S h dX1_beats_38
    · refine gv_iload_n 14 S 3 3 dX1_beats_14 rfl rfl ?_
      refine gv_aload_n 15 S 2 2 dX1_beats_15 rfl rfl ?_
      refine gv_iload 16 S 4 dX1_beats_16 rfl ?_
      refine gv_iald 18 S h hk2 dX1_beats_18 (fun h => ?_)
      refine gv_aload_n 19 S 1 1 dX1_beats_19 rfl rfl ?_
      refine gv_iload 20 S 4 dX1_beats_20 rfl ?_
      refine gv_iald 22 S h hk1 dX1_beats_22 (fun h => ?_)
      refine gv_isub 23 S dX1_beats_23 ?_
      refine gv_mabs 24 S (by decide +kernel) (by decide +kernel) (by decide +kernel) (by decide +kernel) (Nat.le_of_ble_eq_true rfl) (Nat.le_of_ble_eq_true rfl) dX1_beats_24 ?_
      refine gv_mmax 27 S (by decide +kernel) (by decide +kernel) (by decide +kernel) (by decide +kernel) (Nat.le_of_ble_eq_true rfl) (Nat.le_of_ble_eq_true rfl) dX1_beats_27 ?_
      refine gv_nmi h (fun x1 h => ?_)
      refine gv_istore_n 30 S 3 (lv' := [(3, .int x1), (0, .ref (X.2.2 20)), (1, .ref (X.2.2 k1)), (2, .ref (X.2.2 k2)), (4, .int v4)]) dX1_beats_30 rfl (Nat.le_of_ble_eq_true rfl) rfl ?_
      refine gv_iinc 31 S 4 (v4 + (1 : Int32)) (lv' := [(4, .int (v4 + (1 : Int32))), (3, .int x1), (0, .ref (X.2.2 20)), (1, .ref (X.2.2 k1)), (2, .ref (X.2.2 k2))]) dX1_beats_31 rfl rfl (Nat.le_of_ble_eq_true rfl) rfl ?_
      refine gv_goto 34 S 5 dX1_beats_34 (by decide) ?_
      exact gv_sub [2, 3, 4, 1, 0] rfl (ih x1 (v4 + (1 : Int32)) h)
set_option maxHeartbeats 4000000 in
set_option maxRecDepth 100000 in
theorem c_X1_beats (l : Launch) (X : GE) (M : MM) (k1 : Nat) (k2 : Nat) (hk1 : hI X k1 8) (hk2 : hI X k2 8) (r : Int32) (h : f_X1_beats M k1 k2 = some r) : CTi l yX1_beats wsX1_beats rm_X1_beats X [.ref (X.2.2 20), .ref (X.2.2 k1), .ref (X.2.2 k2)] M r M := by
  refine ct_i (own := RX1) (by decide +kernel) rfl rfl (Nat.le_of_ble_eq_true rfl) (lv0 := [(0, .ref (X.2.2 20)), (1, .ref (X.2.2 k1)), (2, .ref (X.2.2 k2))]) rfl ?_
  intro p e s m args below meth c S
  unfold f_X1_beats at h
  refine gv_iconst 0 S (0 : Int32) dX1_beats_0 (by decide) ?_
  refine gv_istore_n 1 S 3 (lv' := [(3, .int (0 : Int32)), (0, .ref (X.2.2 20)), (1, .ref (X.2.2 k1)), (2, .ref (X.2.2 k2))]) dX1_beats_1 rfl (Nat.le_of_ble_eq_true rfl) rfl ?_
  refine gv_iconst 2 S (0 : Int32) dX1_beats_2 (by decide) ?_
  refine gv_istore 3 S (lv' := [(4, .int (0 : Int32)), (3, .int (0 : Int32)), (0, .ref (X.2.2 20)), (1, .ref (X.2.2 k1)), (2, .ref (X.2.2 k2))]) dX1_beats_3 (Nat.le_of_ble_eq_true rfl) rfl ?_
  exact gv_sub [2, 3, 4, 1, 0] rfl (t_X1_beats_5 S k1 k2 hk1 hk2 FU (0 : Int32) (0 : Int32) h)
theorem mi_X1_runsAway_1 : ∀ w ∈ u_ws RX1 TX1 4, w ∈ wsX1_runsAway := by decide +kernel
theorem mf_X1_runsAway_21 : MF wsX1_runsAway RX1 21 1 2 := ⟨RX1, TX1, 4, rfl, by decide, mi_X1_runsAway_1, by decide +kernel⟩
theorem mi_X1_runsAway_6 : ∀ w ∈ u_ws RX6 TX6 6, w ∈ wsX1_runsAway := by decide +kernel
theorem mf_X1_runsAway_47 : MF wsX1_runsAway RX1 47 6 1 := ⟨RX6, TX6, 6, rfl, by decide, mi_X1_runsAway_6, by decide +kernel⟩
theorem mf_X1_runsAway_44 : MF wsX1_runsAway RX1 44 6 0 := ⟨RX6, TX6, 6, rfl, by decide, mi_X1_runsAway_6, by decide +kernel⟩
theorem mf_X1_runsAway_25 : MF wsX1_runsAway RX1 25 6 4 := ⟨RX6, TX6, 6, rfl, by decide, mi_X1_runsAway_6, by decide +kernel⟩
theorem mf_X1_runsAway_50 : MF wsX1_runsAway RX1 50 6 2 := ⟨RX6, TX6, 6, rfl, by decide, mi_X1_runsAway_6, by decide +kernel⟩
abbrev rm_X1_runsAway : Room := { frames := 0, cells := 0, slots := 0, locals := 0 }
set_option maxHeartbeats 4000000 in
set_option maxRecDepth 100000 in
theorem c_X1_runsAway (l : Launch) (X : GE) (M : MM) (v1 : Int32) (r : Int32) (M' : MM) (h : f_X1_runsAway M v1 = some (r, M')) : CTi l yX1_runsAway wsX1_runsAway rm_X1_runsAway X [.ref (X.2.2 20), .int v1] M r M' := by
  refine ct_i (own := RX1) (by decide +kernel) rfl rfl (Nat.le_of_ble_eq_true rfl) (lv0 := [(0, .ref (X.2.2 20)), (1, .int v1)]) rfl ?_
  intro p e s m args below meth c S
  unfold f_X1_runsAway at h
  refine gv_aload_n 0 S 0 0 dX1_runsAway_0 rfl rfl ?_
  refine gv_get 1 S (hF_20_now X) mf_X1_runsAway_21 dX1_runsAway_1 ?_
  refine gv_get 4 S (hF_23_bricks X) mf_X1_runsAway_47 dX1_runsAway_4 ?_
  refine gv_iload_n 7 S 1 1 dX1_runsAway_7 rfl rfl ?_
  refine gv_iald 8 S h (hI_25 X) dX1_runsAway_8 (fun h => ?_)
  refine gv_aload_n 9 S 0 0 dX1_runsAway_9 rfl rfl ?_
  refine gv_get 10 S (hF_20_now X) mf_X1_runsAway_21 dX1_runsAway_10 ?_
  refine gv_get 13 S (hF_23_load X) mf_X1_runsAway_44 dX1_runsAway_13 ?_
  refine gv_iload_n 16 S 1 1 dX1_runsAway_16 rfl rfl ?_
  refine gv_iald 17 S h (hI_24 X) dX1_runsAway_17 (fun h => ?_)
  refine gv_isub 18 S dX1_runsAway_18 ?_
  refine gv_aload_n 19 S 0 0 dX1_runsAway_19 rfl rfl ?_
  refine gv_get 20 S (hF_20_now X) mf_X1_runsAway_21 dX1_runsAway_20 ?_
  refine gv_get 23 S (hF_23_hands X) mf_X1_runsAway_25 dX1_runsAway_23 ?_
  refine gv_icmp_gt 26 S 31 h dX1_runsAway_26 (by decide) (fun h => ?_) (fun h => ?_)
  · refine gv_aload_n 31 S 0 0 dX1_runsAway_31 rfl rfl ?_
    refine gv_get 32 S (hF_20_now X) mf_X1_runsAway_21 dX1_runsAway_32 ?_
    refine gv_get 35 S (hF_23_height X) mf_X1_runsAway_50 dX1_runsAway_35 ?_
    refine gv_iload_n 38 S 1 1 dX1_runsAway_38 rfl rfl ?_
    refine gv_bipush 39 S (9 : Int32) dX1_runsAway_39 (by decide) ?_
    refine gv_iast 41 S h (hI_26 X) dX1_runsAway_41 (fun M1 h => ?_)
    refine gv_iconst 42 S (1 : Int32) dX1_runsAway_42 (by decide) ?_
    exact gv_iret 43 S h dX1_runsAway_43
  · refine gv_iconst 29 S (0 : Int32) dX1_runsAway_29 (by decide) ?_
    exact gv_iret 30 S h dX1_runsAway_30
theorem mi_X1_balanceOf_1 : ∀ w ∈ u_ws RX1 TX1 4, w ∈ wsX1_balanceOf := by decide +kernel
theorem mf_X1_balanceOf_21 : MF wsX1_balanceOf RX1 21 1 2 := ⟨RX1, TX1, 4, rfl, by decide, mi_X1_balanceOf_1, by decide +kernel⟩
theorem mi_X1_balanceOf_6 : ∀ w ∈ u_ws RX6 TX6 6, w ∈ wsX1_balanceOf := by decide +kernel
theorem mf_X1_balanceOf_47 : MF wsX1_balanceOf RX1 47 6 1 := ⟨RX6, TX6, 6, rfl, by decide, mi_X1_balanceOf_6, by decide +kernel⟩
theorem mf_X1_balanceOf_32 : MF wsX1_balanceOf RX1 32 6 3 := ⟨RX6, TX6, 6, rfl, by decide, mi_X1_balanceOf_6, by decide +kernel⟩
theorem mf_X1_balanceOf_9 : MF wsX1_balanceOf RX1 9 1 0 := ⟨RX1, TX1, 4, rfl, by decide, mi_X1_balanceOf_1, by decide +kernel⟩
theorem mf_X1_balanceOf_44 : MF wsX1_balanceOf RX1 44 6 0 := ⟨RX6, TX6, 6, rfl, by decide, mi_X1_balanceOf_6, by decide +kernel⟩
abbrev rm_X1_balanceOf : Room := { frames := 2, cells := 0, slots := 0, locals := 36 }
set_option maxHeartbeats 4000000 in
set_option maxRecDepth 100000 in
theorem t_X1_balanceOf_69 {p : Program} {l : Launch} {e : Env} {s : State} {m : MethodId} {args : Array Value} {below : List Frame} {meth : Method} {c : Code} {X : GE} {M : MM} {r : Int32} (S : CX p s m args meth c cX1_balanceOf 8 wsX1_balanceOf RX1 (some .int) X) (rec33 : Int32 → Int32 → Int32 → Int32 → Int32 → Int32 → Option Int32) (hrec33 : ∀ (v1 : Int32) (v2 : Int32) (v3 : Int32) (v4 : Int32) (v5 : Int32) (v6 : Int32), rec33 v1 v2 v3 v4 v5 v6 = some r → V p l e (headSpec wsX1_balanceOf rm_X1_balanceOf).room s m args below meth c 8 X (MQ below (gQi X r M) args s 0 0 (gA X)) M 33 [(0, .ref (X.2.2 20)), (1, .int v1), (2, .int v2), (3, .int v3), (4, .int v4), (5, .int v5), (6, .int v6)] []) (v1 : Int32) (v2 : Int32) (v3 : Int32) (v4 : Int32) (v5 : Int32) (v6 : Int32) (s0 : Int32) (h : g_X1_balanceOf_69 M rec33 v1 v2 v3 v4 v5 v6 s0 = some r) : V p l e (headSpec wsX1_balanceOf rm_X1_balanceOf).room s m args below meth c 8 X (MQ below (gQi X r M) args s 0 0 (gA X)) M 69 [(0, .ref (X.2.2 20)), (1, .int v1), (2, .int v2), (3, .int v3), (4, .int v4), (5, .int v5), (6, .int v6)] [.int s0] := by
  unfold g_X1_balanceOf_69 at h
  refine gv_istore 69 S (lv' := [(7, .int s0), (0, .ref (X.2.2 20)), (1, .int v1), (2, .int v2), (3, .int v3), (4, .int v4), (5, .int v5), (6, .int v6)]) dX1_balanceOf_69 (Nat.le_of_ble_eq_true rfl) rfl ?_
  refine gv_iload 71 S 0 dX1_balanceOf_71 rfl ?_
  refine gv_if_eq 73 S 104 h dX1_balanceOf_73 (by decide) (fun h => ?_) (fun h => ?_)
  · refine gv_iinc 104 S 7 (v6 + (1 : Int32)) (lv' := [(6, .int (v6 + (1 : Int32))), (7, .int s0), (0, .ref (X.2.2 20)), (1, .int v1), (2, .int v2), (3, .int v3), (4, .int v4), (5, .int v5)]) dX1_balanceOf_104 rfl rfl (Nat.le_of_ble_eq_true rfl) rfl ?_
    refine gv_goto 107 S 33 dX1_balanceOf_107 (by decide) ?_
    exact gv_sub [2, 3, 4, 5, 6, 7, 0] rfl (hrec33 v1 v2 v3 v4 v5 (v6 + (1 : Int32)) h)
  · refine gv_aload_n 76 S 0 1 dX1_balanceOf_76 rfl rfl ?_
    refine gv_get 77 S (hF_20_kind X) mf_X1_balanceOf_9 dX1_balanceOf_77 ?_
    refine gv_iload_n 80 S 1 2 dX1_balanceOf_80 rfl rfl ?_
    refine gv_iald 81 S h (hI_21 X) dX1_balanceOf_81 (fun h => ?_)
    refine gv_aload_n 82 S 0 1 dX1_balanceOf_82 rfl rfl ?_
    refine gv_get 83 S (hF_20_now X) mf_X1_balanceOf_21 dX1_balanceOf_83 ?_
    refine gv_get 86 S (hF_23_load X) mf_X1_balanceOf_44 dX1_balanceOf_86 ?_
    refine gv_iload_n 89 S 1 2 dX1_balanceOf_89 rfl rfl ?_
    refine gv_iald 90 S h (hI_24 X) dX1_balanceOf_90 (fun h => ?_)
    refine gv_iload 91 S 7 dX1_balanceOf_91 rfl ?_
    obtain ⟨r3, hc4, h⟩ := br_some h
    refine gv_cSNi 93 S (As := [.int (M 21 v1.toNatClampNeg), .int (M 24 v1.toNatClampNeg), .int v6]) (rest := []) (c_X10_pullOf l X M (M 21 v1.toNatClampNeg) (M 24 v1.toNatClampNeg) v6 r3 hc4) ⟨va_cnB 3 S.1.2.2.2.2 gX1_balanceOf_X10_pullOf_n53 rfl rfl rfl S.2.2.2.2.1 (S.1.2.2.2.2 _ (by decide +kernel)) (by decide +kernel) ⟨Nat.le_of_ble_eq_true rfl, Nat.le_of_ble_eq_true rfl⟩, S.1.2.2.2.2 _ (by decide +kernel), trivial⟩ rfl rfl (Nat.le_of_ble_eq_true rfl) dX1_balanceOf_93 ?_
    refine gv_iload_n 96 S 2 3 dX1_balanceOf_96 rfl rfl ?_
    refine gv_icmp_gt 97 S 104 h dX1_balanceOf_97 (by decide) (fun h => ?_) (fun h => ?_)
    · refine gv_iinc 104 S 7 (v6 + (1 : Int32)) (lv' := [(6, .int (v6 + (1 : Int32))), (7, .int s0), (0, .ref (X.2.2 20)), (1, .int v1), (2, .int v2), (3, .int v3), (4, .int v4), (5, .int v5)]) dX1_balanceOf_104 rfl rfl (Nat.le_of_ble_eq_true rfl) rfl ?_
      refine gv_goto 107 S 33 dX1_balanceOf_107 (by decide) ?_
      exact gv_sub [2, 3, 4, 5, 6, 7, 0] rfl (hrec33 v1 v2 v3 v4 v5 (v6 + (1 : Int32)) h)
    · refine gv_iload 100 S 7 dX1_balanceOf_100 rfl ?_
      refine gv_istore 102 S (lv' := [(5, .int v6), (7, .int s0), (0, .ref (X.2.2 20)), (1, .int v1), (2, .int v2), (3, .int v3), (4, .int v4), (6, .int v6)]) dX1_balanceOf_102 (Nat.le_of_ble_eq_true rfl) rfl ?_
      refine gv_iinc 104 S 7 (v6 + (1 : Int32)) (lv' := [(6, .int (v6 + (1 : Int32))), (5, .int v6), (7, .int s0), (0, .ref (X.2.2 20)), (1, .int v1), (2, .int v2), (3, .int v3), (4, .int v4)]) dX1_balanceOf_104 rfl rfl (Nat.le_of_ble_eq_true rfl) rfl ?_
      refine gv_goto 107 S 33 dX1_balanceOf_107 (by decide) ?_
      exact gv_sub [3, 4, 5, 6, 7, 1, 0] rfl (hrec33 v1 v2 v3 v4 v6 (v6 + (1 : Int32)) h)
set_option maxHeartbeats 4000000 in
set_option maxRecDepth 100000 in
theorem t_X1_balanceOf_33 {p : Program} {l : Launch} {e : Env} {s : State} {m : MethodId} {args : Array Value} {below : List Frame} {meth : Method} {c : Code} {X : GE} {M : MM} {r : Int32} (S : CX p s m args meth c cX1_balanceOf 8 wsX1_balanceOf RX1 (some .int) X) : ∀ (n : Nat) (v1 : Int32) (v2 : Int32) (v3 : Int32) (v4 : Int32) (v5 : Int32) (v6 : Int32) (h : g_X1_balanceOf_33 M n v1 v2 v3 v4 v5 v6 = some r), V p l e (headSpec wsX1_balanceOf rm_X1_balanceOf).room s m args below meth c 8 X (MQ below (gQi X r M) args s 0 0 (gA X)) M 33 [(0, .ref (X.2.2 20)), (1, .int v1), (2, .int v2), (3, .int v3), (4, .int v4), (5, .int v5), (6, .int v6)] [] := by
  intro n
  induction n with
  | zero =>
    intro v1 v2 v3 v4 v5 v6 h
    rw [g_X1_balanceOf_33] at h
    cases h
  | succ n ih =>
    intro v1 v2 v3 v4 v5 v6 h
    rw [g_X1_balanceOf_33] at h
    refine gv_iload 33 S 6 dX1_balanceOf_33 rfl ?_
    refine gv_iload 35 S 4 dX1_balanceOf_35 rfl ?_
    refine gv_icmp_gt 37 S 110 h dX1_balanceOf_37 (by decide) (fun h => ?_) (fun h => ?_)
    · refine gv_iload 110 S 5 dX1_balanceOf_110 rfl ?_
      exact gv_iretR 112 S h dX1_balanceOf_112
    · refine gv_iload 40 S 5 dX1_balanceOf_40 rfl ?_
      refine gv_bipush 42 S (-9 : Int32) dX1_balanceOf_42 (by decide) ?_
      refine gv_icmp_eq 44 S 64 h dX1_balanceOf_44 (by decide) (fun h => ?_) (fun h => ?_)
      · refine gv_iconst 64 S (1 : Int32) dX1_balanceOf_64 (by decide) ?_
        refine gv_goto 65 S 69 dX1_balanceOf_65 (by decide) ?_
        exact gv_sub [0, 1, 2, 3, 4, 5, 6] rfl (t_X1_balanceOf_69 S (g_X1_balanceOf_33 M n) ih v1 v2 v3 v4 v5 v6 (1 : Int32) h)
      · refine gv_iload 47 S 6 dX1_balanceOf_47 rfl ?_
        refine gv_iload_n 49 S 3 3 dX1_balanceOf_49 rfl rfl ?_
        refine gv_isub 50 S dX1_balanceOf_50 ?_
        refine gv_mabs 51 S (by decide +kernel) (by decide +kernel) (by decide +kernel) (by decide +kernel) (Nat.le_of_ble_eq_true rfl) (Nat.le_of_ble_eq_true rfl) dX1_balanceOf_51 ?_
        refine gv_iload 54 S 5 dX1_balanceOf_54 rfl ?_
        refine gv_iload_n 56 S 3 3 dX1_balanceOf_56 rfl rfl ?_
        refine gv_isub 57 S dX1_balanceOf_57 ?_
        refine gv_mabs 58 S (by decide +kernel) (by decide +kernel) (by decide +kernel) (by decide +kernel) (Nat.le_of_ble_eq_true rfl) (Nat.le_of_ble_eq_true rfl) dX1_balanceOf_58 ?_
        refine gv_icmp_ge 61 S 68 h dX1_balanceOf_61 (by decide) (fun h => ?_) (fun h => ?_)
        · refine gv_iconst 68 S (0 : Int32) dX1_balanceOf_68 (by decide) ?_
          exact gv_sub [0, 1, 2, 3, 4, 5, 6] rfl (t_X1_balanceOf_69 S (g_X1_balanceOf_33 M n) ih v1 v2 v3 v4 v5 v6 (0 : Int32) h)
        · refine gv_iconst 64 S (1 : Int32) dX1_balanceOf_64 (by decide) ?_
          refine gv_goto 65 S 69 dX1_balanceOf_65 (by decide) ?_
          exact gv_sub [0, 1, 2, 3, 4, 5, 6] rfl (t_X1_balanceOf_69 S (g_X1_balanceOf_33 M n) ih v1 v2 v3 v4 v5 v6 (1 : Int32) h)
set_option maxHeartbeats 4000000 in
set_option maxRecDepth 100000 in
theorem c_X1_balanceOf (l : Launch) (X : GE) (M : MM) (v1 : Int32) (v2 : Int32) (r : Int32) (h : f_X1_balanceOf M v1 v2 = some r) : CTi l yX1_balanceOf wsX1_balanceOf rm_X1_balanceOf X [.ref (X.2.2 20), .int v1, .int v2] M r M := by
  refine ct_i (own := RX1) (by decide +kernel) rfl rfl (Nat.le_of_ble_eq_true rfl) (lv0 := [(0, .ref (X.2.2 20)), (1, .int v1), (2, .int v2)]) rfl ?_
  intro p e s m args below meth c S
  unfold f_X1_balanceOf at h
  refine gv_aload_n 0 S 0 0 dX1_balanceOf_0 rfl rfl ?_
  refine gv_get 1 S (hF_20_now X) mf_X1_balanceOf_21 dX1_balanceOf_1 ?_
  refine gv_get 4 S (hF_23_bricks X) mf_X1_balanceOf_47 dX1_balanceOf_4 ?_
  refine gv_iload_n 7 S 1 1 dX1_balanceOf_7 rfl rfl ?_
  refine gv_iald 8 S h (hI_25 X) dX1_balanceOf_8 (fun h => ?_)
  refine gv_nmi h (fun x1 h => ?_)
  refine gv_istore_n 9 S 3 (lv' := [(3, .int x1), (0, .ref (X.2.2 20)), (1, .int v1), (2, .int v2)]) dX1_balanceOf_9 rfl (Nat.le_of_ble_eq_true rfl) rfl ?_
  refine gv_iload_n 10 S 3 0 dX1_balanceOf_10 rfl rfl ?_
  refine gv_aload_n 11 S 0 1 dX1_balanceOf_11 rfl rfl ?_
  refine gv_get 12 S (hF_20_now X) mf_X1_balanceOf_21 dX1_balanceOf_12 ?_
  refine gv_get 15 S (hF_23_stock X) mf_X1_balanceOf_32 dX1_balanceOf_15 ?_
  refine gv_iadd 18 S dX1_balanceOf_18 ?_
  refine gv_bipush 19 S (9 : Int32) dX1_balanceOf_19 (by decide) ?_
  refine gv_mmin 21 S (by decide +kernel) (by decide +kernel) (by decide +kernel) (by decide +kernel) (Nat.le_of_ble_eq_true rfl) (Nat.le_of_ble_eq_true rfl) dX1_balanceOf_21 ?_
  refine gv_nmi h (fun x2 h => ?_)
  refine gv_istore 24 S (lv' := [(4, .int x2), (3, .int x1), (0, .ref (X.2.2 20)), (1, .int v1), (2, .int v2)]) dX1_balanceOf_24 (Nat.le_of_ble_eq_true rfl) rfl ?_
  refine gv_bipush 26 S (-9 : Int32) dX1_balanceOf_26 (by decide) ?_
  refine gv_istore 28 S (lv' := [(5, .int (-9 : Int32)), (4, .int x2), (3, .int x1), (0, .ref (X.2.2 20)), (1, .int v1), (2, .int v2)]) dX1_balanceOf_28 (Nat.le_of_ble_eq_true rfl) rfl ?_
  refine gv_iconst 30 S (0 : Int32) dX1_balanceOf_30 (by decide) ?_
  refine gv_istore 31 S (lv' := [(6, .int (0 : Int32)), (5, .int (-9 : Int32)), (4, .int x2), (3, .int x1), (0, .ref (X.2.2 20)), (1, .int v1), (2, .int v2)]) dX1_balanceOf_31 (Nat.le_of_ble_eq_true rfl) rfl ?_
  exact gv_sub [4, 5, 6, 3, 2, 1, 0] rfl (t_X1_balanceOf_33 S FU v1 v2 x1 x2 (-9 : Int32) (0 : Int32) h)
theorem mi_X2_add_2 : ∀ w ∈ u_ws RX2 TX2 3, w ∈ wsX2_add := by decide +kernel
theorem mf_X2_add_18 : MF wsX2_add RX2 18 2 2 := ⟨RX2, TX2, 3, rfl, by decide, mi_X2_add_2, by decide +kernel⟩
theorem mf_X2_add_9 : MF wsX2_add RX2 9 2 0 := ⟨RX2, TX2, 3, rfl, by decide, mi_X2_add_2, by decide +kernel⟩
theorem mf_X2_add_15 : MF wsX2_add RX2 15 2 1 := ⟨RX2, TX2, 3, rfl, by decide, mi_X2_add_2, by decide +kernel⟩
theorem mp_X2_add_18 : MP wsX2_add RX2 18 2 2 .int := ⟨RX2, TX2, 3, tyX2, rfl, by decide, mi_X2_add_2, by decide +kernel, tyX2_ok, nmX2, rfl, by decide +kernel⟩
abbrev rm_X2_add : Room := { frames := 0, cells := 0, slots := 0, locals := 0 }
set_option maxHeartbeats 4000000 in
set_option maxRecDepth 100000 in
theorem c_X2_add (l : Launch) (X : GE) (M : MM) (v1 : Int32) (v2 : Int32) (M' : MM) (h : f_X2_add M v1 v2 = some M') : CTv l yX2_add wsX2_add rm_X2_add X [.ref (X.2.2 65), .int v1, .int v2] M M' := by
  refine ct_v (own := RX2) (by decide +kernel) rfl rfl (Nat.le_of_ble_eq_true rfl) (lv0 := [(0, .ref (X.2.2 65)), (1, .int v1), (2, .int v2)]) rfl ?_
  intro p e s m args below meth c S
  unfold f_X2_add at h
  refine gv_aload_n 0 S 0 0 dX2_add_0 rfl rfl ?_
  refine gv_get 1 S (hF_65_count X) mf_X2_add_18 dX2_add_1 ?_
  refine gv_bipush 4 S (20 : Int32) dX2_add_4 (by decide) ?_
  refine gv_icmp_ge 6 S 39 h dX2_add_6 (by decide) (fun h => ?_) (fun h => ?_)
  · exact gv_vret 39 S h dX2_add_39
  · refine gv_aload_n 9 S 0 0 dX2_add_9 rfl rfl ?_
    refine gv_get 10 S (hF_65_batten X) mf_X2_add_9 dX2_add_10 ?_
    refine gv_aload_n 13 S 0 0 dX2_add_13 rfl rfl ?_
    refine gv_get 14 S (hF_65_count X) mf_X2_add_18 dX2_add_14 ?_
    refine gv_iload_n 17 S 1 1 dX2_add_17 rfl rfl ?_
    refine gv_iast 18 S h (hI_66 X) dX2_add_18 (fun M1 h => ?_)
    refine gv_aload_n 19 S 0 0 dX2_add_19 rfl rfl ?_
    refine gv_get 20 S (hF_65_height X) mf_X2_add_15 dX2_add_20 ?_
    refine gv_aload_n 23 S 0 0 dX2_add_23 rfl rfl ?_
    refine gv_get 24 S (hF_65_count X) mf_X2_add_18 dX2_add_24 ?_
    refine gv_iload_n 27 S 2 2 dX2_add_27 rfl rfl ?_
    refine gv_iast 28 S h (hI_67 X) dX2_add_28 (fun M2 h => ?_)
    refine gv_aload_n 29 S 0 0 dX2_add_29 rfl rfl ?_
    refine gv_dup 30 S dX2_add_30 rfl ?_
    refine gv_get 31 S (hF_65_count X) mf_X2_add_18 dX2_add_31 ?_
    refine gv_iconst 34 S (1 : Int32) dX2_add_34 (by decide) ?_
    refine gv_iadd 35 S dX2_add_35 ?_
    refine gv_put 36 S h (hP_65_count X) mp_X2_add_18 rfl rfl dX2_add_36 (fun M3 h => ?_)
    exact gv_vret 39 S h dX2_add_39
theorem mi_X2_repeatBatten_2 : ∀ w ∈ u_ws RX2 TX2 3, w ∈ wsX2_repeatBatten := by decide +kernel
theorem mf_X2_repeatBatten_18 : MF wsX2_repeatBatten RX2 18 2 2 := ⟨RX2, TX2, 3, rfl, by decide, mi_X2_repeatBatten_2, by decide +kernel⟩
theorem mf_X2_repeatBatten_9 : MF wsX2_repeatBatten RX2 9 2 0 := ⟨RX2, TX2, 3, rfl, by decide, mi_X2_repeatBatten_2, by decide +kernel⟩
abbrev rm_X2_repeatBatten : Room := { frames := 0, cells := 0, slots := 0, locals := 0 }
set_option maxHeartbeats 4000000 in
set_option maxRecDepth 100000 in
theorem t_X2_repeatBatten_4 {p : Program} {l : Launch} {e : Env} {s : State} {m : MethodId} {args : Array Value} {below : List Frame} {meth : Method} {c : Code} {X : GE} {M : MM} {r : Int32} (S : CX p s m args meth c cX2_repeatBatten 4 wsX2_repeatBatten RX2 (some .boolean) X) : ∀ (n : Nat) (v1 : Int32) (v2 : Int32) (h : g_X2_repeatBatten_4 M n v1 v2 = some r), V p l e (headSpec wsX2_repeatBatten rm_X2_repeatBatten).room s m args below meth c 4 X (MQ below (gQi X r M) args s 0 0 (gA X)) M 4 [(0, .ref (X.2.2 65)), (1, .int v1), (2, .int v2)] [] := by
  intro n
  induction n with
  | zero =>
    intro v1 v2 h
    rw [g_X2_repeatBatten_4] at h
    cases h
  | succ n ih =>
    intro v1 v2 h
    rw [g_X2_repeatBatten_4] at h
    refine gv_iload_n 4 S 2 2 dX2_repeatBatten_4 rfl rfl ?_
    refine gv_aload_n 5 S 0 0 dX2_repeatBatten_5 rfl rfl ?_
    refine gv_get 6 S (hF_65_count X) mf_X2_repeatBatten_18 dX2_repeatBatten_6 ?_
    refine gv_icmp_ge 9 S 39 h dX2_repeatBatten_9 (by decide) (fun h => ?_) (fun h => ?_)
    · refine gv_iconst 39 S (0 : Int32) dX2_repeatBatten_39 (by decide) ?_
      exact gv_zretR 40 S h rfl dX2_repeatBatten_40
    · refine gv_iconst 12 S (1 : Int32) dX2_repeatBatten_12 (by decide) ?_
      refine gv_aload_n 13 S 0 0 dX2_repeatBatten_13 rfl rfl ?_
      refine gv_get 14 S (hF_65_batten X) mf_X2_repeatBatten_9 dX2_repeatBatten_14 ?_
      refine gv_iload_n 17 S 2 2 dX2_repeatBatten_17 rfl rfl ?_
      refine gv_iald 18 S h (hI_66 X) dX2_repeatBatten_18 (fun h => ?_)
      refine gv_ishl 19 S dX2_repeatBatten_19 ?_
      refine gv_nmi h (fun x1 h => ?_)
      refine gv_istore_n 20 S 3 (lv' := [(3, .int x1), (0, .ref (X.2.2 65)), (1, .int v1), (2, .int v2)]) dX2_repeatBatten_20 rfl (Nat.le_of_ble_eq_true rfl) rfl ?_
      refine gv_iload_n 21 S 1 2 dX2_repeatBatten_21 rfl rfl ?_
      refine gv_iload_n 22 S 3 0 dX2_repeatBatten_22 rfl rfl ?_
      refine gv_iand 23 S dX2_repeatBatten_23 ?_
      refine gv_if_eq 24 S 29 h dX2_repeatBatten_24 (by decide) (fun h => ?_) (fun h => ?_)
      · refine gv_iload_n 29 S 1 2 dX2_repeatBatten_29 rfl rfl ?_
        refine gv_iload_n 30 S 3 0 dX2_repeatBatten_30 rfl rfl ?_
        refine gv_ior 31 S dX2_repeatBatten_31 ?_
        refine gv_nmi h (fun x2 h => ?_)
        refine gv_istore_n 32 S 1 (lv' := [(1, .int x2), (3, .int x1), (0, .ref (X.2.2 65)), (2, .int v2)]) dX2_repeatBatten_32 rfl (Nat.le_of_ble_eq_true rfl) rfl ?_
        refine gv_iinc 33 S 3 (v2 + (1 : Int32)) (lv' := [(2, .int (v2 + (1 : Int32))), (1, .int x2), (3, .int x1), (0, .ref (X.2.2 65))]) dX2_repeatBatten_33 rfl rfl (Nat.le_of_ble_eq_true rfl) rfl ?_
        refine gv_goto 36 S 4 dX2_repeatBatten_36 (by decide) ?_
        exact gv_sub [3, 1, 0] rfl (ih x2 (v2 + (1 : Int32)) h)
      · refine gv_iconst 27 S (1 : Int32) dX2_repeatBatten_27 (by decide) ?_
        exact gv_zretR 28 S h rfl dX2_repeatBatten_28
set_option maxHeartbeats 4000000 in
set_option maxRecDepth 100000 in
theorem c_X2_repeatBatten (l : Launch) (X : GE) (M : MM) (r : Int32) (h : f_X2_repeatBatten M = some r) : CTi l yX2_repeatBatten wsX2_repeatBatten rm_X2_repeatBatten X [.ref (X.2.2 65)] M r M := by
  refine ct_i (own := RX2) (by decide +kernel) rfl rfl (Nat.le_of_ble_eq_true rfl) (lv0 := [(0, .ref (X.2.2 65))]) rfl ?_
  intro p e s m args below meth c S
  unfold f_X2_repeatBatten at h
  refine gv_iconst 0 S (0 : Int32) dX2_repeatBatten_0 (by decide) ?_
  refine gv_istore_n 1 S 1 (lv' := [(1, .int (0 : Int32)), (0, .ref (X.2.2 65))]) dX2_repeatBatten_1 rfl (Nat.le_of_ble_eq_true rfl) rfl ?_
  refine gv_iconst 2 S (0 : Int32) dX2_repeatBatten_2 (by decide) ?_
  refine gv_istore_n 3 S 2 (lv' := [(2, .int (0 : Int32)), (1, .int (0 : Int32)), (0, .ref (X.2.2 65))]) dX2_repeatBatten_3 rfl (Nat.le_of_ble_eq_true rfl) rfl ?_
  exact gv_sub [2, 1, 0] rfl (t_X2_repeatBatten_4 S FU (0 : Int32) (0 : Int32) h)
theorem mi_X3_forget_3 : ∀ w ∈ u_ws RX3 TX3 3, w ∈ wsX3_forget := by decide +kernel
theorem mp_X3_forget_18 : MP wsX3_forget RX3 18 3 1 .int := ⟨RX3, TX3, 3, tyX3, rfl, by decide, mi_X3_forget_3, by decide +kernel, tyX3_ok, nmX3, rfl, by decide +kernel⟩
abbrev rm_X3_forget : Room := { frames := 0, cells := 0, slots := 0, locals := 0 }
set_option maxHeartbeats 4000000 in
set_option maxRecDepth 100000 in
theorem c_X3_forget (l : Launch) (X : GE) (M : MM) (M' : MM) (h : f_X3_forget M = some M') : CTv l yX3_forget wsX3_forget rm_X3_forget X [.ref (X.2.2 27)] M M' := by
  refine ct_v (own := RX3) (by decide +kernel) rfl rfl (Nat.le_of_ble_eq_true rfl) (lv0 := [(0, .ref (X.2.2 27))]) rfl ?_
  intro p e s m args below meth c S
  unfold f_X3_forget at h
  refine gv_aload_n 0 S 0 0 dX3_forget_0 rfl rfl ?_
  refine gv_iconst 1 S (0 : Int32) dX3_forget_1 (by decide) ?_
  refine gv_put 2 S h (hP_27_known X) mp_X3_forget_18 rfl rfl dX3_forget_2 (fun M1 h => ?_)
  exact gv_vret 5 S h dX3_forget_5
theorem mi_X6_takeMoved_6 : ∀ w ∈ u_ws RX6 TX6 6, w ∈ wsX6_takeMoved := by decide +kernel
theorem mf_X6_takeMoved_9 : MF wsX6_takeMoved RX6 9 6 0 := ⟨RX6, TX6, 6, rfl, by decide, mi_X6_takeMoved_6, by decide +kernel⟩
theorem mf_X6_takeMoved_15 : MF wsX6_takeMoved RX6 15 6 1 := ⟨RX6, TX6, 6, rfl, by decide, mi_X6_takeMoved_6, by decide +kernel⟩
theorem mf_X6_takeMoved_18 : MF wsX6_takeMoved RX6 18 6 2 := ⟨RX6, TX6, 6, rfl, by decide, mi_X6_takeMoved_6, by decide +kernel⟩
theorem mf_X6_takeMoved_27 : MF wsX6_takeMoved RX6 27 6 3 := ⟨RX6, TX6, 6, rfl, by decide, mi_X6_takeMoved_6, by decide +kernel⟩
theorem mp_X6_takeMoved_27 : MP wsX6_takeMoved RX6 27 6 3 .int := ⟨RX6, TX6, 6, tyX6, rfl, by decide, mi_X6_takeMoved_6, by decide +kernel, tyX6_ok, nmX6, rfl, by decide +kernel⟩
abbrev rm_X6_takeMoved : Room := { frames := 1, cells := 0, slots := 0, locals := 18 }
set_option maxHeartbeats 4000000 in
set_option maxRecDepth 100000 in
theorem c_X6_takeMoved (l : Launch) (X : GE) (M : MM) (k0 : Nat) (k1 : Nat) (hk0 : isRg k0) (hk1 : isRg k1) (M' : MM) (h : f_X6_takeMoved M k0 k1 = some M') : CTv l yX6_takeMoved wsX6_takeMoved rm_X6_takeMoved X [.ref (X.2.2 k0), .ref (X.2.2 k1)] M M' := by
  refine ct_v (own := RX6) (by decide +kernel) rfl rfl (Nat.le_of_ble_eq_true rfl) (lv0 := [(0, .ref (X.2.2 k0)), (1, .ref (X.2.2 k1))]) rfl ?_
  intro p e s m args below meth c S
  unfold f_X6_takeMoved at h
  refine gv_aload_n 0 S 1 1 dX6_takeMoved_0 rfl rfl ?_
  refine gv_get 1 S (hF_Rg_load hk1) mf_X6_takeMoved_9 dX6_takeMoved_1 ?_
  refine gv_iconst 4 S (0 : Int32) dX6_takeMoved_4 (by decide) ?_
  refine gv_aload_n 5 S 0 0 dX6_takeMoved_5 rfl rfl ?_
  refine gv_get 6 S (hF_Rg_load hk0) mf_X6_takeMoved_9 dX6_takeMoved_6 ?_
  refine gv_iconst 9 S (0 : Int32) dX6_takeMoved_9 (by decide) ?_
  refine gv_bipush 10 S (8 : Int32) dX6_takeMoved_10 (by decide) ?_
  refine gv_copy 12 S h (hI_Rg_load hk1) (hI_Rg_load hk0) (by decide +kernel) (by decide +kernel) (by decide +kernel) (by decide +kernel) (Nat.le_of_ble_eq_true rfl) (Nat.le_of_ble_eq_true rfl) dX6_takeMoved_12 (fun M1 h => ?_)
  refine gv_aload_n 15 S 1 1 dX6_takeMoved_15 rfl rfl ?_
  refine gv_get 16 S (hF_Rg_bricks hk1) mf_X6_takeMoved_15 dX6_takeMoved_16 ?_
  refine gv_iconst 19 S (0 : Int32) dX6_takeMoved_19 (by decide) ?_
  refine gv_aload_n 20 S 0 0 dX6_takeMoved_20 rfl rfl ?_
  refine gv_get 21 S (hF_Rg_bricks hk0) mf_X6_takeMoved_15 dX6_takeMoved_21 ?_
  refine gv_iconst 24 S (0 : Int32) dX6_takeMoved_24 (by decide) ?_
  refine gv_bipush 25 S (8 : Int32) dX6_takeMoved_25 (by decide) ?_
  refine gv_copy 27 S h (hI_Rg_bricks hk1) (hI_Rg_bricks hk0) (by decide +kernel) (by decide +kernel) (by decide +kernel) (by decide +kernel) (Nat.le_of_ble_eq_true rfl) (Nat.le_of_ble_eq_true rfl) dX6_takeMoved_27 (fun M2 h => ?_)
  refine gv_aload_n 30 S 1 1 dX6_takeMoved_30 rfl rfl ?_
  refine gv_get 31 S (hF_Rg_height hk1) mf_X6_takeMoved_18 dX6_takeMoved_31 ?_
  refine gv_iconst 34 S (0 : Int32) dX6_takeMoved_34 (by decide) ?_
  refine gv_aload_n 35 S 0 0 dX6_takeMoved_35 rfl rfl ?_
  refine gv_get 36 S (hF_Rg_height hk0) mf_X6_takeMoved_18 dX6_takeMoved_36 ?_
  refine gv_iconst 39 S (0 : Int32) dX6_takeMoved_39 (by decide) ?_
  refine gv_bipush 40 S (8 : Int32) dX6_takeMoved_40 (by decide) ?_
  refine gv_copy 42 S h (hI_Rg_height hk1) (hI_Rg_height hk0) (by decide +kernel) (by decide +kernel) (by decide +kernel) (by decide +kernel) (Nat.le_of_ble_eq_true rfl) (Nat.le_of_ble_eq_true rfl) dX6_takeMoved_42 (fun M3 h => ?_)
  refine gv_aload_n 45 S 0 0 dX6_takeMoved_45 rfl rfl ?_
  refine gv_aload_n 46 S 1 1 dX6_takeMoved_46 rfl rfl ?_
  refine gv_get 47 S (hF_Rg_stock hk1) mf_X6_takeMoved_27 dX6_takeMoved_47 ?_
  refine gv_put 50 S h (hP_Rg_stock hk0) mp_X6_takeMoved_27 rfl rfl dX6_takeMoved_50 (fun M4 h => ?_)
  exact gv_vret 53 S h dX6_takeMoved_53
theorem mi_X3_remember_3 : ∀ w ∈ u_ws RX3 TX3 3, w ∈ wsX3_remember := by decide +kernel
theorem mf_X3_remember_11 : MF wsX3_remember RX3 11 3 0 := ⟨RX3, TX3, 3, rfl, by decide, mi_X3_remember_3, by decide +kernel⟩
theorem mf_X3_remember_22 : MF wsX3_remember RX3 22 3 2 := ⟨RX3, TX3, 3, rfl, by decide, mi_X3_remember_3, by decide +kernel⟩
theorem mp_X3_remember_22 : MP wsX3_remember RX3 22 3 2 .int := ⟨RX3, TX3, 3, tyX3, rfl, by decide, mi_X3_remember_3, by decide +kernel, tyX3_ok, nmX3, rfl, by decide +kernel⟩
theorem mf_X3_remember_18 : MF wsX3_remember RX3 18 3 1 := ⟨RX3, TX3, 3, rfl, by decide, mi_X3_remember_3, by decide +kernel⟩
theorem mp_X3_remember_18 : MP wsX3_remember RX3 18 3 1 .int := ⟨RX3, TX3, 3, tyX3, rfl, by decide, mi_X3_remember_3, by decide +kernel, tyX3_ok, nmX3, rfl, by decide +kernel⟩
abbrev rm_X3_remember : Room := { frames := 2, cells := 0, slots := 0, locals := 39 }
set_option maxHeartbeats 4000000 in
set_option maxRecDepth 100000 in
theorem c_X3_remember (l : Launch) (X : GE) (M : MM) (M' : MM) (h : f_X3_remember M = some M') : CTv l yX3_remember wsX3_remember rm_X3_remember X [.ref (X.2.2 27), .ref (X.2.2 23)] M M' := by
  refine ct_v (own := RX3) (by decide +kernel) rfl rfl (Nat.le_of_ble_eq_true rfl) (lv0 := [(0, .ref (X.2.2 27)), (1, .ref (X.2.2 23))]) rfl ?_
  intro p e s m args below meth c S
  unfold f_X3_remember at h
  refine gv_aload_n 0 S 0 0 dX3_remember_0 rfl rfl ?_
  refine gv_get 1 S (hF_27_rigs X) mf_X3_remember_11 dX3_remember_1 ?_
  refine gv_aload_n 4 S 0 0 dX3_remember_4 rfl rfl ?_
  refine gv_get 5 S (hF_27_next X) mf_X3_remember_22 dX3_remember_5 ?_
  refine gv_aald 8 S h (hR_28 X) rfl dX3_remember_8 (fun hq1 h => ?_)
  refine gv_aload_n 9 S 1 1 dX3_remember_9 rfl rfl ?_
  obtain ⟨M3, hc4, h⟩ := br_some h
  refine gv_cVv 10 S (As := [.ref (X.2.2 23)]) (rest := []) (c_X6_takeMoved l X M (29 + 4 * (M 27 2).toNatClampNeg) 23 (isRg_ps hq1) isRg_now M3 hc4) (hO_Rg (isRg_ps hq1)) rfl (cwV 1 S.1.2.2.2.2 gX3_remember_X6_takeMoved rfl rfl rfl (by decide +kernel) ⟨Nat.le_of_ble_eq_true rfl, Nat.le_of_ble_eq_true rfl⟩) rfl rfl (Nat.le_of_ble_eq_true rfl) dX3_remember_10 ?_
  refine gv_aload_n 13 S 0 0 dX3_remember_13 rfl rfl ?_
  refine gv_aload_n 14 S 0 0 dX3_remember_14 rfl rfl ?_
  refine gv_get 15 S (hF_27_next X) mf_X3_remember_22 dX3_remember_15 ?_
  refine gv_iconst 18 S (1 : Int32) dX3_remember_18 (by decide) ?_
  refine gv_iadd 19 S dX3_remember_19 ?_
  refine gv_bipush 20 S (8 : Int32) dX3_remember_20 (by decide) ?_
  refine gv_irem 22 S (by decide) dX3_remember_22 ?_
  refine gv_put 23 S h (hP_27_next X) mp_X3_remember_22 rfl rfl dX3_remember_23 (fun M5 h => ?_)
  refine gv_aload_n 26 S 0 0 dX3_remember_26 rfl rfl ?_
  refine gv_aload_n 27 S 0 0 dX3_remember_27 rfl rfl ?_
  refine gv_get 28 S (hF_27_known X) mf_X3_remember_18 dX3_remember_28 ?_
  refine gv_iconst 31 S (1 : Int32) dX3_remember_31 (by decide) ?_
  refine gv_iadd 32 S dX3_remember_32 ?_
  refine gv_bipush 33 S (8 : Int32) dX3_remember_33 (by decide) ?_
  refine gv_mmin 35 S (by decide +kernel) (by decide +kernel) (by decide +kernel) (by decide +kernel) (Nat.le_of_ble_eq_true rfl) (Nat.le_of_ble_eq_true rfl) dX3_remember_35 ?_
  refine gv_put 38 S h (hP_27_known X) mp_X3_remember_18 rfl rfl dX3_remember_38 (fun M6 h => ?_)
  exact gv_vret 41 S h dX3_remember_41
