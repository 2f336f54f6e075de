theorem mi_X8_readRow_8 : ∀ w ∈ u_ws RX8 TX8 7, w ∈ wsX8_readRow := by decide +kernel
theorem mf_X8_readRow_44 : MF wsX8_readRow RX8 44 8 6 := ⟨RX8, TX8, 7, rfl, by decide, mi_X8_readRow_8, by decide +kernel⟩
theorem mf_X8_readRow_27 : MF wsX8_readRow RX8 27 8 5 := ⟨RX8, TX8, 7, rfl, by decide, mi_X8_readRow_8, by decide +kernel⟩
theorem mf_X8_readRow_24 : MF wsX8_readRow RX8 24 8 4 := ⟨RX8, TX8, 7, rfl, by decide, mi_X8_readRow_8, by decide +kernel⟩
abbrev rm_X8_readRow : Room := { frames := 1, cells := 0, slots := 0, locals := 13 }
set_option maxHeartbeats 4000000 in
set_option maxRecDepth 100000 in
theorem t_X8_readRow_37 {p : Program} {l : Launch} {e : Env} {s : State} {m : MethodId} {args : Array Value} {below : List Frame} {meth : Method} {c : Code} {X : GE} {M' : MM} (S : CX p s m args meth c cX8_readRow 6 wsX8_readRow RX8 none X) : ∀ (n : Nat) (M : MM) (v3 : Int32) (v4 : Int32) (v5 : Int32) (h : g_X8_readRow_37 n M v3 v4 v5 = some M'), V p l e (headSpec wsX8_readRow rm_X8_readRow).room s m args below meth c 6 X (MQ below (gQv X M') args s 0 0 (gA X)) M 37 [(0, .ref (X.2.2 76)), (3, .int v3), (4, .int v4), (5, .int v5)] [] := by
  intro n
  induction n with
  | zero =>
    intro M v3 v4 v5 h
    rw [g_X8_readRow_37] at h
    cases h
  | succ n ih =>
    intro M v3 v4 v5 h
    rw [g_X8_readRow_37] at h
    refine gv_iload 37 S 3 dX8_readRow_37 rfl ?_
    refine gv_if_lt 39 S 84 h dX8_readRow_39 (by decide) (fun h => ?_) (fun h => ?_)
    · exact gv_vret 84 S h dX8_readRow_84
    · refine gv_aload_n 42 S 0 0 dX8_readRow_42 rfl rfl ?_
      refine gv_get 43 S (hF_76_cueOf X) mf_X8_readRow_24 dX8_readRow_43 ?_
      refine gv_iload 46 S 3 dX8_readRow_46 rfl ?_
      refine gv_iload 48 S 2 dX8_readRow_48 rfl ?_
      refine gv_iload_n 50 S 3 1 dX8_readRow_50 rfl rfl ?_
      refine gv_iremG 51 S h dX8_readRow_51 (fun h => ?_)
      refine gv_iast 52 S h (hI_81 X) dX8_readRow_52 (fun M4 h => ?_)
      refine gv_aload_n 53 S 0 0 dX8_readRow_53 rfl rfl ?_
      refine gv_get 54 S (hF_76_inCue X) mf_X8_readRow_27 dX8_readRow_54 ?_
      refine gv_aload_n 57 S 0 0 dX8_readRow_57 rfl rfl ?_
      refine gv_get 58 S (hF_76_cueOf X) mf_X8_readRow_24 dX8_readRow_58 ?_
      refine gv_iload 61 S 3 dX8_readRow_61 rfl ?_
      refine gv_iald 63 S h (hI_81 X) dX8_readRow_63 (fun h => ?_)
      refine gv_dup2 64 S dX8_readRow_64 rfl rfl ?_
      refine gv_iald 65 S h (hI_82 X) dX8_readRow_65 (fun h => ?_)
      refine gv_iconst 66 S (1 : Int32) dX8_readRow_66 (by decide) ?_
      refine gv_iload 67 S 3 dX8_readRow_67 rfl ?_
      refine gv_ishl 69 S dX8_readRow_69 ?_
      refine gv_ior 70 S dX8_readRow_70 ?_
      refine gv_iast 71 S h (hI_82 X) dX8_readRow_71 (fun M5 h => ?_)
      refine gv_iload 72 S 2 dX8_readRow_72 rfl ?_
      refine gv_iload_n 74 S 3 1 dX8_readRow_74 rfl rfl ?_
      refine gv_idivG 75 S h dX8_readRow_75 (fun h => ?_)
      refine gv_nmi h (fun x6 h => ?_)
      refine gv_istore 76 S (lv' := [(4, .int x6), (0, .ref (X.2.2 76)), (3, .int v3), (5, .int v5)]) dX8_readRow_76 (Nat.le_of_ble_eq_true rfl) rfl ?_
      refine gv_iinc 78 S 3 (v5 + (-1 : Int32)) (lv' := [(5, .int (v5 + (-1 : Int32))), (4, .int x6), (0, .ref (X.2.2 76)), (3, .int v3)]) dX8_readRow_78 rfl rfl (Nat.le_of_ble_eq_true rfl) rfl ?_
      refine gv_goto 81 S 37 dX8_readRow_81 (by decide) ?_
      exact gv_sub [2, 3, 1, 0] rfl (ih M5 v3 x6 (v5 + (-1 : Int32)) h)
set_option maxHeartbeats 4000000 in
set_option maxRecDepth 100000 in
theorem t_X8_readRow_2 {p : Program} {l : Launch} {e : Env} {s : State} {m : MethodId} {args : Array Value} {below : List Frame} {meth : Method} {c : Code} {X : GE} {M' : MM} (S : CX p s m args meth c cX8_readRow 6 wsX8_readRow RX8 none X) : ∀ (n : Nat) (M : MM) (v1 : Int32) (v2 : Int32) (v3 : Int32) (h : g_X8_readRow_2 n M v1 v2 v3 = some M'), V p l e (headSpec wsX8_readRow rm_X8_readRow).room s m args below meth c 6 X (MQ below (gQv X M') args s 0 0 (gA X)) M 2 [(0, .ref (X.2.2 76)), (1, .int v1), (2, .int v2), (3, .int v3)] [] := by
  intro n
  induction n with
  | zero =>
    intro M v1 v2 v3 h
    rw [g_X8_readRow_2] at h
    cases h
  | succ n ih =>
    intro M v1 v2 v3 h
    rw [g_X8_readRow_2] at h
    refine gv_iload_n 2 S 3 3 dX8_readRow_2 rfl rfl ?_
    refine gv_iconst 3 S (5 : Int32) dX8_readRow_3 (by decide) ?_
    refine gv_icmp_ge 4 S 20 h dX8_readRow_4 (by decide) (fun h => ?_) (fun h => ?_)
    · refine gv_aload_n 20 S 0 0 dX8_readRow_20 rfl rfl ?_
      refine gv_get 21 S (hF_76_cues X) mf_X8_readRow_44 dX8_readRow_21 ?_
      refine gv_iconst 24 S (1 : Int32) dX8_readRow_24 (by decide) ?_
      refine gv_mmax 25 S (by decide +kernel) (by decide +kernel) (by decide +kernel) (by decide +kernel) (Nat.le_of_ble_eq_true rfl) (Nat.le_of_ble_eq_true rfl) dX8_readRow_25 ?_
      refine gv_nmi h (fun x1 h => ?_)
      refine gv_istore_n 28 S 3 (lv' := [(3, .int x1), (0, .ref (X.2.2 76)), (1, .int v1), (2, .int v2)]) dX8_readRow_28 rfl (Nat.le_of_ble_eq_true rfl) rfl ?_
      refine gv_iload_n 29 S 1 2 dX8_readRow_29 rfl rfl ?_
      refine gv_istore 30 S (lv' := [(4, .int v1), (3, .int x1), (0, .ref (X.2.2 76)), (1, .int v1), (2, .int v2)]) dX8_readRow_30 (Nat.le_of_ble_eq_true rfl) rfl ?_
      refine gv_iload_n 32 S 2 4 dX8_readRow_32 rfl rfl ?_
      refine gv_iconst 33 S (1 : Int32) dX8_readRow_33 (by decide) ?_
      refine gv_isub 34 S dX8_readRow_34 ?_
      refine gv_nmi h (fun x2 h => ?_)
      refine gv_istore 35 S (lv' := [(5, .int x2), (4, .int v1), (3, .int x1), (0, .ref (X.2.2 76)), (1, .int v1), (2, .int v2)]) dX8_readRow_35 (Nat.le_of_ble_eq_true rfl) rfl ?_
      exact gv_sub [3, 2, 1, 0] rfl (t_X8_readRow_37 S FU M x1 v1 x2 h)
    · refine gv_aload_n 7 S 0 0 dX8_readRow_7 rfl rfl ?_
      refine gv_get 8 S (hF_76_inCue X) mf_X8_readRow_27 dX8_readRow_8 ?_
      refine gv_iload_n 11 S 3 3 dX8_readRow_11 rfl rfl ?_
      refine gv_iconst 12 S (0 : Int32) dX8_readRow_12 (by decide) ?_
      refine gv_iast 13 S h (hI_82 X) dX8_readRow_13 (fun M3 h => ?_)
      refine gv_iinc 14 S 3 (v3 + (1 : Int32)) (lv' := [(3, .int (v3 + (1 : Int32))), (0, .ref (X.2.2 76)), (1, .int v1), (2, .int v2)]) dX8_readRow_14 rfl rfl (Nat.le_of_ble_eq_true rfl) rfl ?_
      refine gv_goto 17 S 2 dX8_readRow_17 (by decide) ?_
      exact gv_sub [1, 2, 3, 0] rfl (ih M3 v1 v2 (v3 + (1 : Int32)) h)
set_option maxHeartbeats 4000000 in
set_option maxRecDepth 100000 in
theorem c_X8_readRow (l : Launch) (X : GE) (M : MM) (v1 : Int32) (v2 : Int32) (M' : MM) (h : f_X8_readRow M v1 v2 = some M') : CTv l yX8_readRow wsX8_readRow rm_X8_readRow X [.ref (X.2.2 76), .int v1, .int v2] M M' := by
  refine ct_v (own := RX8) (by decide +kernel) rfl rfl (Nat.le_of_ble_eq_true rfl) (lv0 := [(0, .ref (X.2.2 76)), (1, .int v1), (2, .int v2)]) rfl ?_
  intro p e s m args below meth c S
  unfold f_X8_readRow at h
  refine gv_iconst 0 S (0 : Int32) dX8_readRow_0 (by decide) ?_
  refine gv_istore_n 1 S 3 (lv' := [(3, .int (0 : Int32)), (0, .ref (X.2.2 76)), (1, .int v1), (2, .int v2)]) dX8_readRow_1 rfl (Nat.le_of_ble_eq_true rfl) rfl ?_
  exact gv_sub [1, 2, 3, 0] rfl (t_X8_readRow_2 S FU M v1 v2 (0 : Int32) h)
theorem mi_X8_rowCanBe_8 : ∀ w ∈ u_ws RX8 TX8 7, w ∈ wsX8_rowCanBe := by decide +kernel
theorem mf_X8_rowCanBe_44 : MF wsX8_rowCanBe RX8 44 8 6 := ⟨RX8, TX8, 7, rfl, by decide, mi_X8_rowCanBe_8, by decide +kernel⟩
theorem mf_X8_rowCanBe_11 : MF wsX8_rowCanBe RX8 11 8 0 := ⟨RX8, TX8, 7, rfl, by decide, mi_X8_rowCanBe_8, by decide +kernel⟩
theorem mf_X8_rowCanBe_27 : MF wsX8_rowCanBe RX8 27 8 5 := ⟨RX8, TX8, 7, rfl, by decide, mi_X8_rowCanBe_8, by decide +kernel⟩
abbrev rm_X8_rowCanBe : Room := { frames := 0, cells := 0, slots := 0, locals := 0 }
set_option maxHeartbeats 4000000 in
set_option maxRecDepth 100000 in
theorem t_X8_rowCanBe_4 {p : Program} {l : Launch} {e : Env} {s : State} {m : MethodId} {args : Array Value} {below : List Frame} {meth : Method} {c : Code} {X : GE} {M : MM} {r : Int32} (S : CX p s m args meth c cX8_rowCanBe 3 wsX8_rowCanBe RX8 (some .boolean) X) : ∀ (n : Nat) (v1 : Int32) (v2 : Int32) (h : g_X8_rowCanBe_4 M n v1 v2 = some r), V p l e (headSpec wsX8_rowCanBe rm_X8_rowCanBe).room s m args below meth c 3 X (MQ below (gQi X r M) args s 0 0 (gA X)) M 4 [(0, .ref (X.2.2 76)), (1, .int v1), (2, .int v2)] [] := by
  intro n
  induction n with
  | zero =>
    intro v1 v2 h
    rw [g_X8_rowCanBe_4] at h
    cases h
  | succ n ih =>
    intro v1 v2 h
    rw [g_X8_rowCanBe_4] at h
    refine gv_iload_n 4 S 2 2 dX8_rowCanBe_4 rfl rfl ?_
    refine gv_aload_n 5 S 0 0 dX8_rowCanBe_5 rfl rfl ?_
    refine gv_get 6 S (hF_76_cues X) mf_X8_rowCanBe_44 dX8_rowCanBe_6 ?_
    refine gv_icmp_ge 9 S 47 h dX8_rowCanBe_9 (by decide) (fun h => ?_) (fun h => ?_)
    · refine gv_iconst 47 S (1 : Int32) dX8_rowCanBe_47 (by decide) ?_
      exact gv_zretR 48 S h rfl dX8_rowCanBe_48
    · refine gv_aload_n 12 S 0 0 dX8_rowCanBe_12 rfl rfl ?_
      refine gv_get 13 S (hF_76_next X) mf_X8_rowCanBe_11 dX8_rowCanBe_13 ?_
      refine gv_iload_n 16 S 1 1 dX8_rowCanBe_16 rfl rfl ?_
      refine gv_iald 17 S h (hI_77 X) dX8_rowCanBe_17 (fun h => ?_)
      refine gv_aload_n 18 S 0 0 dX8_rowCanBe_18 rfl rfl ?_
      refine gv_get 19 S (hF_76_inCue X) mf_X8_rowCanBe_27 dX8_rowCanBe_19 ?_
      refine gv_iload_n 22 S 2 2 dX8_rowCanBe_22 rfl rfl ?_
      refine gv_iald 23 S h (hI_82 X) dX8_rowCanBe_23 (fun h => ?_)
      refine gv_iushr 24 S dX8_rowCanBe_24 ?_
      refine gv_iconst 25 S (1 : Int32) dX8_rowCanBe_25 (by decide) ?_
      refine gv_iand 26 S dX8_rowCanBe_26 ?_
      refine gv_if_ne 27 S 32 h dX8_rowCanBe_27 (by decide) (fun h => ?_) (fun h => ?_)
      · refine gv_iload_n 32 S 1 1 dX8_rowCanBe_32 rfl rfl ?_
        refine gv_aload_n 33 S 0 0 dX8_rowCanBe_33 rfl rfl ?_
        refine gv_get 34 S (hF_76_inCue X) mf_X8_rowCanBe_27 dX8_rowCanBe_34 ?_
        refine gv_iload_n 37 S 2 2 dX8_rowCanBe_37 rfl rfl ?_
        refine gv_iald 38 S h (hI_82 X) dX8_rowCanBe_38 (fun h => ?_)
        refine gv_ior 39 S dX8_rowCanBe_39 ?_
        refine gv_nmi h (fun x1 h => ?_)
        refine gv_istore_n 40 S 1 (lv' := [(1, .int x1), (0, .ref (X.2.2 76)), (2, .int v2)]) dX8_rowCanBe_40 rfl (Nat.le_of_ble_eq_true rfl) rfl ?_
        refine gv_iinc 41 S 2 (v2 + (1 : Int32)) (lv' := [(2, .int (v2 + (1 : Int32))), (1, .int x1), (0, .ref (X.2.2 76))]) dX8_rowCanBe_41 rfl rfl (Nat.le_of_ble_eq_true rfl) rfl ?_
        refine gv_goto 44 S 4 dX8_rowCanBe_44 (by decide) ?_
        exact gv_sub [2, 1, 0] rfl (ih x1 (v2 + (1 : Int32)) h)
      · refine gv_iconst 30 S (0 : Int32) dX8_rowCanBe_30 (by decide) ?_
        exact gv_zretR 31 S h rfl dX8_rowCanBe_31
set_option maxHeartbeats 4000000 in
set_option maxRecDepth 100000 in
theorem c_X8_rowCanBe (l : Launch) (X : GE) (M : MM) (r : Int32) (h : f_X8_rowCanBe M = some r) : CTi l yX8_rowCanBe wsX8_rowCanBe rm_X8_rowCanBe X [.ref (X.2.2 76)] M r M := by
  refine ct_i (own := RX8) (by decide +kernel) rfl rfl (Nat.le_of_ble_eq_true rfl) (lv0 := [(0, .ref (X.2.2 76))]) rfl ?_
  intro p e s m args below meth c S
  unfold f_X8_rowCanBe at h
  refine gv_iconst 0 S (0 : Int32) dX8_rowCanBe_0 (by decide) ?_
  refine gv_istore_n 1 S 1 (lv' := [(1, .int (0 : Int32)), (0, .ref (X.2.2 76))]) dX8_rowCanBe_1 rfl (Nat.le_of_ble_eq_true rfl) rfl ?_
  refine gv_iconst 2 S (0 : Int32) dX8_rowCanBe_2 (by decide) ?_
  refine gv_istore_n 3 S 2 (lv' := [(2, .int (0 : Int32)), (1, .int (0 : Int32)), (0, .ref (X.2.2 76))]) dX8_rowCanBe_3 rfl (Nat.le_of_ble_eq_true rfl) rfl ?_
  exact gv_sub [2, 1, 0] rfl (t_X8_rowCanBe_4 S FU (0 : Int32) (0 : Int32) h)
theorem mi_X8_chooseRow_8 : ∀ w ∈ u_ws RX8 TX8 7, w ∈ wsX8_chooseRow := by decide +kernel
theorem mf_X8_chooseRow_44 : MF wsX8_chooseRow RX8 44 8 6 := ⟨RX8, TX8, 7, rfl, by decide, mi_X8_chooseRow_8, by decide +kernel⟩
abbrev rm_X8_chooseRow : Room := { frames := 2, cells := 0, slots := 0, locals := 38 }
set_option maxHeartbeats 4000000 in
set_option maxRecDepth 100000 in
theorem t_X8_chooseRow_24 {p : Program} {l : Launch} {e : Env} {s : State} {m : MethodId} {args : Array Value} {below : List Frame} {meth : Method} {c : Code} {X : GE} {r : Int32} {M' : MM} (S : CX p s m args meth c cX8_chooseRow 4 wsX8_chooseRow RX8 (some .boolean) X) : ∀ (n : Nat) (M : MM) (v1 : Int32) (v2 : Int32) (v3 : Int32) (h : g_X8_chooseRow_24 n M v1 v2 v3 = some (r, M')), V p l e (headSpec wsX8_chooseRow rm_X8_chooseRow).room s m args below meth c 4 X (MQ below (gQi X r M') args s 0 0 (gA X)) M 24 [(0, .ref (X.2.2 76)), (1, .int v1), (2, .int v2), (3, .int v3)] [] := by
  intro n
  induction n with
  | zero =>
    intro M v1 v2 v3 h
    rw [g_X8_chooseRow_24] at h
    cases h
  | succ n ih =>
    intro M v1 v2 v3 h
    rw [g_X8_chooseRow_24] at h
    refine gv_iload_n 24 S 3 3 dX8_chooseRow_24 rfl rfl ?_
    refine gv_iload_n 25 S 2 2 dX8_chooseRow_25 rfl rfl ?_
    refine gv_icmp_ge 26 S 50 h dX8_chooseRow_26 (by decide) (fun h => ?_) (fun h => ?_)
    · refine gv_iconst 50 S (0 : Int32) dX8_chooseRow_50 (by decide) ?_
      exact gv_zret 51 S h rfl dX8_chooseRow_51
    · refine gv_aload_n 29 S 0 0 dX8_chooseRow_29 rfl rfl ?_
      refine gv_iload_n 30 S 3 3 dX8_chooseRow_30 rfl rfl ?_
      refine gv_iload_n 31 S 1 1 dX8_chooseRow_31 rfl rfl ?_
      obtain ⟨M3, hc4, h⟩ := br_some h
      refine gv_cVv 32 S (As := [.int v3, .int v1]) (rest := []) (c_X8_readRow l X M v3 v1 M3 hc4) (hO_76 X) rfl (cwV 2 S.1.2.2.2.2 gX8_chooseRow_X8_readRow rfl rfl rfl (by decide +kernel) ⟨Nat.le_of_ble_eq_true rfl, Nat.le_of_ble_eq_true rfl⟩) rfl rfl (Nat.le_of_ble_eq_true rfl) dX8_chooseRow_32 ?_
      refine gv_aload_n 35 S 0 0 dX8_chooseRow_35 rfl rfl ?_
      obtain ⟨r5, hc6, h⟩ := br_some h
      refine gv_cVi 36 S (As := []) (rest := []) (c_X8_rowCanBe l X M3 r5 hc6) (hO_76 X) rfl (cwV 0 S.1.2.2.2.2 gX8_chooseRow_X8_rowCanBe rfl rfl rfl (by decide +kernel) ⟨Nat.le_of_ble_eq_true rfl, Nat.le_of_ble_eq_true rfl⟩) rfl rfl (Nat.le_of_ble_eq_true rfl) dX8_chooseRow_36 ?_
      refine gv_if_eq 39 S 44 h dX8_chooseRow_39 (by decide) (fun h => ?_) (fun h => ?_)
      · refine gv_iinc 44 S 3 (v3 + (1 : Int32)) (lv' := [(3, .int (v3 + (1 : Int32))), (0, .ref (X.2.2 76)), (1, .int v1), (2, .int v2)]) dX8_chooseRow_44 rfl rfl (Nat.le_of_ble_eq_true rfl) rfl ?_
        refine gv_goto 47 S 24 dX8_chooseRow_47 (by decide) ?_
        exact gv_sub [1, 2, 3, 0] rfl (ih M3 v1 v2 (v3 + (1 : Int32)) h)
      · refine gv_iconst 42 S (1 : Int32) dX8_chooseRow_42 (by decide) ?_
        exact gv_zret 43 S h rfl dX8_chooseRow_43
set_option maxHeartbeats 4000000 in
set_option maxRecDepth 100000 in
theorem t_X8_chooseRow_4 {p : Program} {l : Launch} {e : Env} {s : State} {m : MethodId} {args : Array Value} {below : List Frame} {meth : Method} {c : Code} {X : GE} {r : Int32} {M' : MM} (S : CX p s m args meth c cX8_chooseRow 4 wsX8_chooseRow RX8 (some .boolean) X) : ∀ (n : Nat) (M : MM) (v1 : Int32) (v2 : Int32) (v3 : Int32) (h : g_X8_chooseRow_4 n M v1 v2 v3 = some (r, M')), V p l e (headSpec wsX8_chooseRow rm_X8_chooseRow).room s m args below meth c 4 X (MQ below (gQi X r M') args s 0 0 (gA X)) M 4 [(0, .ref (X.2.2 76)), (1, .int v1), (2, .int v2), (3, .int v3)] [] := by
  intro n
  induction n with
  | zero =>
    intro M v1 v2 v3 h
    rw [g_X8_chooseRow_4] at h
    cases h
  | succ n ih =>
    intro M v1 v2 v3 h
    rw [g_X8_chooseRow_4] at h
    refine gv_iload_n 4 S 3 3 dX8_chooseRow_4 rfl rfl ?_
    refine gv_iload_n 5 S 1 1 dX8_chooseRow_5 rfl rfl ?_
    refine gv_icmp_ge 6 S 22 h dX8_chooseRow_6 (by decide) (fun h => ?_) (fun h => ?_)
    · refine gv_iconst 22 S (0 : Int32) dX8_chooseRow_22 (by decide) ?_
      refine gv_istore_n 23 S 3 (lv' := [(3, .int (0 : Int32)), (0, .ref (X.2.2 76)), (1, .int v1), (2, .int v2)]) dX8_chooseRow_23 rfl (Nat.le_of_ble_eq_true rfl) rfl ?_
      exact gv_sub [1, 2, 3, 0] rfl (t_X8_chooseRow_24 S FU M v1 v2 (0 : Int32) h)
    · refine gv_iload_n 9 S 2 2 dX8_chooseRow_9 rfl rfl ?_
      refine gv_aload_n 10 S 0 0 dX8_chooseRow_10 rfl rfl ?_
      refine gv_get 11 S (hF_76_cues X) mf_X8_chooseRow_44 dX8_chooseRow_11 ?_
      refine gv_imul 14 S dX8_chooseRow_14 ?_
      refine gv_nmi h (fun x1 h => ?_)
      refine gv_istore_n 15 S 2 (lv' := [(2, .int x1), (0, .ref (X.2.2 76)), (1, .int v1), (3, .int v3)]) dX8_chooseRow_15 rfl (Nat.le_of_ble_eq_true rfl) rfl ?_
      refine gv_iinc 16 S 3 (v3 + (1 : Int32)) (lv' := [(3, .int (v3 + (1 : Int32))), (2, .int x1), (0, .ref (X.2.2 76)), (1, .int v1)]) dX8_chooseRow_16 rfl rfl (Nat.le_of_ble_eq_true rfl) rfl ?_
      refine gv_goto 19 S 4 dX8_chooseRow_19 (by decide) ?_
      exact gv_sub [2, 3, 1, 0] rfl (ih M v1 x1 (v3 + (1 : Int32)) h)
set_option maxHeartbeats 4000000 in
set_option maxRecDepth 100000 in
theorem c_X8_chooseRow (l : Launch) (X : GE) (M : MM) (v1 : Int32) (r : Int32) (M' : MM) (h : f_X8_chooseRow M v1 = some (r, M')) : CTi l yX8_chooseRow wsX8_chooseRow rm_X8_chooseRow X [.ref (X.2.2 76), .int v1] M r M' := by
  refine ct_i (own := RX8) (by decide +kernel) rfl rfl (Nat.le_of_ble_eq_true rfl) (lv0 := [(0, .ref (X.2.2 76)), (1, .int v1)]) rfl ?_
  intro p e s m args below meth c S
  unfold f_X8_chooseRow at h
  refine gv_iconst 0 S (1 : Int32) dX8_chooseRow_0 (by decide) ?_
  refine gv_istore_n 1 S 2 (lv' := [(2, .int (1 : Int32)), (0, .ref (X.2.2 76)), (1, .int v1)]) dX8_chooseRow_1 rfl (Nat.le_of_ble_eq_true rfl) rfl ?_
  refine gv_iconst 2 S (0 : Int32) dX8_chooseRow_2 (by decide) ?_
  refine gv_istore_n 3 S 3 (lv' := [(3, .int (0 : Int32)), (2, .int (1 : Int32)), (0, .ref (X.2.2 76)), (1, .int v1)]) dX8_chooseRow_3 rfl (Nat.le_of_ble_eq_true rfl) rfl ?_
  exact gv_sub [2, 3, 1, 0] rfl (t_X8_chooseRow_4 S FU M v1 (1 : Int32) (0 : Int32) h)
theorem mi_X8_find_2 : ∀ w ∈ u_ws RX2 TX2 3, w ∈ wsX8_find := by decide +kernel
theorem mf_X8_find_30 : MF wsX8_find RX8 30 2 2 := ⟨RX2, TX2, 3, rfl, by decide, mi_X8_find_2, by decide +kernel⟩
theorem mi_X8_find_8 : ∀ w ∈ u_ws RX8 TX8 7, w ∈ wsX8_find := by decide +kernel
theorem mf_X8_find_15 : MF wsX8_find RX8 15 8 1 := ⟨RX8, TX8, 7, rfl, by decide, mi_X8_find_8, by decide +kernel⟩
theorem mp_X8_find_44 : MP wsX8_find RX8 44 8 6 .int := ⟨RX8, TX8, 7, tyX8, rfl, by decide, mi_X8_find_8, by decide +kernel, tyX8_ok, nmX8, rfl, by decide +kernel⟩
theorem mf_X8_find_44 : MF wsX8_find RX8 44 8 6 := ⟨RX8, TX8, 7, rfl, by decide, mi_X8_find_8, by decide +kernel⟩
theorem mf_X8_find_11 : MF wsX8_find RX8 11 8 0 := ⟨RX8, TX8, 7, rfl, by decide, mi_X8_find_8, by decide +kernel⟩
abbrev rm_X8_find : Room := { frames := 5, cells := 0, slots := 0, locals := 107 }
set_option maxHeartbeats 4000000 in
set_option maxRecDepth 100000 in
theorem t_X8_find_21 {p : Program} {l : Launch} {e : Env} {s : State} {m : MethodId} {args : Array Value} {below : List Frame} {meth : Method} {c : Code} {X : GE} {r : Int32} {M' : MM} (S : CX p s m args meth c cX8_find 5 wsX8_find RX8 (some .boolean) X) : ∀ (n : Nat) (M : MM) (v3 : Int32) (v4 : Int32) (h : g_X8_find_21 n M v3 v4 = some (r, M')), V p l e (headSpec wsX8_find rm_X8_find).room s m args below meth c 5 X (MQ below (gQi X r M') args s 0 0 (gA X)) M 21 [(0, .ref (X.2.2 76)), (1, .ref (X.2.2 20)), (2, .ref (X.2.2 65)), (3, .int v3), (4, .int v4)] [] := by
  intro n
  induction n with
  | zero =>
    intro M v3 v4 h
    rw [g_X8_find_21] at h
    cases h
  | succ n ih =>
    intro M v3 v4 h
    rw [g_X8_find_21] at h
    refine gv_iload 21 S 4 dX8_find_21 rfl ?_
    refine gv_if_lt 23 S 61 h dX8_find_23 (by decide) (fun h => ?_) (fun h => ?_)
    · refine gv_aload_n 61 S 0 0 dX8_find_61 rfl rfl ?_
      refine gv_aload_n 62 S 0 0 dX8_find_62 rfl rfl ?_
      refine gv_get 63 S (hF_76_fewest X) mf_X8_find_15 dX8_find_63 ?_
      refine gv_iconst 66 S (0 : Int32) dX8_find_66 (by decide) ?_
      refine gv_iald 67 S h (hI_78 X) dX8_find_67 (fun h => ?_)
      refine gv_put 68 S h (hP_76_cues X) mp_X8_find_44 rfl rfl dX8_find_68 (fun M4 h => ?_)
      refine gv_aload_n 71 S 0 0 dX8_find_71 rfl rfl ?_
      refine gv_get 72 S (hF_76_cues X) mf_X8_find_44 dX8_find_72 ?_
      refine gv_bipush 75 S (-9 : Int32) dX8_find_75 (by decide) ?_
      refine gv_icmp_eq 77 S 95 h dX8_find_77 (by decide) (fun h => ?_) (fun h => ?_)
      · refine gv_iconst 95 S (0 : Int32) dX8_find_95 (by decide) ?_
        exact gv_zret 96 S h rfl dX8_find_96
      · refine gv_aload_n 80 S 0 0 dX8_find_80 rfl rfl ?_
        refine gv_aload_n 81 S 2 2 dX8_find_81 rfl rfl ?_
        refine gv_get 82 S (hF_65_count X) mf_X8_find_30 dX8_find_82 ?_
        obtain ⟨r5, M6, hc7, h⟩ := bi_some h
        refine gv_cVi 85 S (As := [.int (M4 65 2)]) (rest := []) (c_X8_chooseRow l X M4 (M4 65 2) r5 M6 hc7) (hO_76 X) rfl (cwV 1 S.1.2.2.2.2 gX8_find_X8_chooseRow rfl rfl rfl (by decide +kernel) ⟨Nat.le_of_ble_eq_true rfl, Nat.le_of_ble_eq_true rfl⟩) rfl rfl (Nat.le_of_ble_eq_true rfl) dX8_find_85 ?_
        refine gv_if_eq 88 S 95 h dX8_find_88 (by decide) (fun h => ?_) (fun h => ?_)
        · refine gv_iconst 95 S (0 : Int32) dX8_find_95 (by decide) ?_
          exact gv_zret 96 S h rfl dX8_find_96
        · refine gv_iconst 91 S (1 : Int32) dX8_find_91 (by decide) ?_
          refine gv_goto 92 S 96 dX8_find_92 (by decide) ?_
          exact gv_zret 96 S h rfl dX8_find_96
    · refine gv_aload_n 26 S 0 0 dX8_find_26 rfl rfl ?_
      refine gv_get 27 S (hF_76_next X) mf_X8_find_11 dX8_find_27 ?_
      refine gv_iload 30 S 4 dX8_find_30 rfl ?_
      refine gv_aload_n 32 S 0 0 dX8_find_32 rfl rfl ?_
      refine gv_aload_n 33 S 1 1 dX8_find_33 rfl rfl ?_
      refine gv_aload_n 34 S 2 2 dX8_find_34 rfl rfl ?_
      refine gv_iload 35 S 4 dX8_find_35 rfl ?_
      obtain ⟨r8, M9, hc10, h⟩ := bi_some h
      refine gv_cVi 37 S (As := [.ref (X.2.2 20), .ref (X.2.2 65), .int v4]) (rest := [.int v4, .ref (X.2.2 77)]) (c_X8_nextBehind l X M v4 r8 M9 hc10) (hO_76 X) rfl (cwV 3 S.1.2.2.2.2 gX8_find_X8_nextBehind rfl rfl rfl (by decide +kernel) ⟨Nat.le_of_ble_eq_true rfl, Nat.le_of_ble_eq_true rfl⟩) rfl rfl (Nat.le_of_ble_eq_true rfl) dX8_find_37 ?_
      refine gv_iast 40 S h (hI_77 X) dX8_find_40 (fun M11 h => ?_)
      refine gv_aload_n 41 S 0 0 dX8_find_41 rfl rfl ?_
      refine gv_get 42 S (hF_76_fewest X) mf_X8_find_15 dX8_find_42 ?_
      refine gv_iload 45 S 4 dX8_find_45 rfl ?_
      refine gv_aload_n 47 S 0 0 dX8_find_47 rfl rfl ?_
      refine gv_iload 48 S 4 dX8_find_48 rfl ?_
      refine gv_iload_n 50 S 3 3 dX8_find_50 rfl rfl ?_
      obtain ⟨r12, hc13, h⟩ := br_some h
      refine gv_cVi 51 S (As := [.int v4, .int v3]) (rest := [.int v4, .ref (X.2.2 78)]) (c_X8_fewestBehind l X M11 v4 v3 r12 hc13) (hO_76 X) rfl (cwV 2 S.1.2.2.2.2 gX8_find_X8_fewestBehind rfl rfl rfl (by decide +kernel) ⟨Nat.le_of_ble_eq_true rfl, Nat.le_of_ble_eq_true rfl⟩) rfl rfl (Nat.le_of_ble_eq_true rfl) dX8_find_51 ?_
      refine gv_iast 54 S h (hI_78 X) dX8_find_54 (fun M14 h => ?_)
      refine gv_iinc 55 S 4 (v4 + (-1 : Int32)) (lv' := [(4, .int (v4 + (-1 : Int32))), (0, .ref (X.2.2 76)), (1, .ref (X.2.2 20)), (2, .ref (X.2.2 65)), (3, .int v3)]) dX8_find_55 rfl rfl (Nat.le_of_ble_eq_true rfl) rfl ?_
      refine gv_goto 58 S 21 dX8_find_58 (by decide) ?_
      exact gv_sub [1, 2, 3, 4, 0] rfl (ih M14 v3 (v4 + (-1 : Int32)) h)
set_option maxHeartbeats 4000000 in
set_option maxRecDepth 100000 in
theorem c_X8_find (l : Launch) (X : GE) (M : MM) (r : Int32) (M' : MM) (h : f_X8_find M = some (r, M')) : CTi l yX8_find wsX8_find rm_X8_find X [.ref (X.2.2 76), .ref (X.2.2 20), .ref (X.2.2 65)] M r M' := by
  refine ct_i (own := RX8) (by decide +kernel) rfl rfl (Nat.le_of_ble_eq_true rfl) (lv0 := [(0, .ref (X.2.2 76)), (1, .ref (X.2.2 20)), (2, .ref (X.2.2 65))]) rfl ?_
  intro p e s m args below meth c S
  unfold f_X8_find at h
  refine gv_iconst 0 S (1 : Int32) dX8_find_0 (by decide) ?_
  refine gv_aload_n 1 S 2 2 dX8_find_1 rfl rfl ?_
  refine gv_get 2 S (hF_65_count X) mf_X8_find_30 dX8_find_2 ?_
  refine gv_ishl 5 S dX8_find_5 ?_
  refine gv_iconst 6 S (1 : Int32) dX8_find_6 (by decide) ?_
  refine gv_isub 7 S dX8_find_7 ?_
  refine gv_nmi h (fun x1 h => ?_)
  refine gv_istore_n 8 S 3 (lv' := [(3, .int x1), (0, .ref (X.2.2 76)), (1, .ref (X.2.2 20)), (2, .ref (X.2.2 65))]) dX8_find_8 rfl (Nat.le_of_ble_eq_true rfl) rfl ?_
  refine gv_aload_n 9 S 0 1 dX8_find_9 rfl rfl ?_
  refine gv_get 10 S (hF_76_fewest X) mf_X8_find_15 dX8_find_10 ?_
  refine gv_iload_n 13 S 3 0 dX8_find_13 rfl rfl ?_
  refine gv_iconst 14 S (0 : Int32) dX8_find_14 (by decide) ?_
  refine gv_iast 15 S h (hI_78 X) dX8_find_15 (fun M2 h => ?_)
  refine gv_iload_n 16 S 3 0 dX8_find_16 rfl rfl ?_
  refine gv_iconst 17 S (1 : Int32) dX8_find_17 (by decide) ?_
  refine gv_isub 18 S dX8_find_18 ?_
  refine gv_nmi h (fun x3 h => ?_)
  refine gv_istore 19 S (lv' := [(4, .int x3), (3, .int x1), (0, .ref (X.2.2 76)), (1, .ref (X.2.2 20)), (2, .ref (X.2.2 65))]) dX8_find_19 (Nat.le_of_ble_eq_true rfl) rfl ?_
  exact gv_sub [2, 3, 4, 1, 0] rfl (t_X8_find_21 S FU M2 x1 x3 h)
abbrev rm_X10_within : Room := { frames := 0, cells := 0, slots := 0, locals := 0 }
set_option maxHeartbeats 4000000 in
set_option maxRecDepth 100000 in
theorem c_X10_within (l : Launch) (X : GE) (M : MM) (v0 : Int32) (v1 : Int32) (v2 : Int32) (r : Int32) (h : f_X10_within M v0 v1 v2 = some r) : CTi l yX10_within wsX10_within rm_X10_within X [.int v0, .int v1, .int v2] M r M := by
  refine ct_i (own := RX10) (by decide +kernel) rfl rfl (Nat.le_of_ble_eq_true rfl) (lv0 := [(0, .int v0), (1, .int v1), (2, .int v2)]) rfl ?_
  intro p e s m args below meth c S
  unfold f_X10_within at h
  refine gv_iload_n 0 S 0 0 dX10_within_0 rfl rfl ?_
  refine gv_iload_n 1 S 1 1 dX10_within_1 rfl rfl ?_
  refine gv_icmp_lt 2 S 14 h dX10_within_2 (by decide) (fun h => ?_) (fun h => ?_)
  · refine gv_iconst 14 S (0 : Int32) dX10_within_14 (by decide) ?_
    exact gv_zretR 15 S h rfl dX10_within_15
  · refine gv_iload_n 5 S 0 0 dX10_within_5 rfl rfl ?_
    refine gv_iload_n 6 S 2 2 dX10_within_6 rfl rfl ?_
    refine gv_icmp_gt 7 S 14 h dX10_within_7 (by decide) (fun h => ?_) (fun h => ?_)
    · refine gv_iconst 14 S (0 : Int32) dX10_within_14 (by decide) ?_
      exact gv_zretR 15 S h rfl dX10_within_15
    · refine gv_iconst 10 S (1 : Int32) dX10_within_10 (by decide) ?_
      refine gv_goto 11 S 15 dX10_within_11 (by decide) ?_
      exact gv_zretR 15 S h rfl dX10_within_15
abbrev rm_X9_ofBattenGoesOn : Room := { frames := 1, cells := 0, slots := 0, locals := 22 }
set_option maxHeartbeats 4000000 in
set_option maxRecDepth 100000 in
theorem c_X9_ofBattenGoesOn (l : Launch) (X : GE) (M : MM) (v0 : Int32) (v1 : Int32) (r : Int32) (h : f_X9_ofBattenGoesOn M v0 v1 = some r) : CTi l yX9_ofBattenGoesOn wsX9_ofBattenGoesOn rm_X9_ofBattenGoesOn X [.int v0, .int v1] M r M := by
  refine ct_i (own := RX9) (by decide +kernel) rfl rfl (Nat.le_of_ble_eq_true rfl) (lv0 := [(0, .int v0), (1, .int v1)]) rfl ?_
  intro p e s m args below meth c S
  unfold f_X9_ofBattenGoesOn at h
  refine gv_iload_n 0 S 0 0 dX9_ofBattenGoesOn_0 rfl rfl ?_
  by_cases hq1 : v0 = 0
  · rw [if_pos hq1] at h
    refine gv_lookup 1 S 36 dX9_ofBattenGoesOn_1 (by decide) (by rw [hq1] <;> rfl) (by decide) ?_
    refine gv_iload_n 36 S 1 1 dX9_ofBattenGoesOn_36 rfl rfl ?_
    refine gv_bipush 37 S (59 : Int32) dX9_ofBattenGoesOn_37 (by decide) ?_
    refine gv_icmp_ne 39 S 46 h dX9_ofBattenGoesOn_39 (by decide) (fun h => ?_) (fun h => ?_)
    · refine gv_iconst 46 S (0 : Int32) dX9_ofBattenGoesOn_46 (by decide) ?_
      exact gv_zretR 47 S h rfl dX9_ofBattenGoesOn_47
    · refine gv_iconst 42 S (1 : Int32) dX9_ofBattenGoesOn_42 (by decide) ?_
      refine gv_goto 43 S 47 dX9_ofBattenGoesOn_43 (by decide) ?_
      exact gv_zretR 47 S h rfl dX9_ofBattenGoesOn_47
  rw [if_neg hq1] at h
  by_cases hq2 : v0 = 1
  · rw [if_pos hq2] at h
    refine gv_lookup 1 S 48 dX9_ofBattenGoesOn_1 (by decide) (by rw [hq2] <;> rfl) (by decide) ?_
    refine gv_iload_n 48 S 1 1 dX9_ofBattenGoesOn_48 rfl rfl ?_
    refine gv_bipush 49 S (108 : Int32) dX9_ofBattenGoesOn_49 (by decide) ?_
    refine gv_icmp_eq 51 S 66 h dX9_ofBattenGoesOn_51 (by decide) (fun h => ?_) (fun h => ?_)
    · refine gv_iconst 66 S (1 : Int32) dX9_ofBattenGoesOn_66 (by decide) ?_
      refine gv_goto 67 S 71 dX9_ofBattenGoesOn_67 (by decide) ?_
      exact gv_zretR 71 S h rfl dX9_ofBattenGoesOn_71
    · refine gv_iload_n 54 S 1 1 dX9_ofBattenGoesOn_54 rfl rfl ?_
      refine gv_bipush 55 S (97 : Int32) dX9_ofBattenGoesOn_55 (by decide) ?_
      refine gv_icmp_eq 57 S 66 h dX9_ofBattenGoesOn_57 (by decide) (fun h => ?_) (fun h => ?_)
      · refine gv_iconst 66 S (1 : Int32) dX9_ofBattenGoesOn_66 (by decide) ?_
        refine gv_goto 67 S 71 dX9_ofBattenGoesOn_67 (by decide) ?_
        exact gv_zretR 71 S h rfl dX9_ofBattenGoesOn_71
      · refine gv_iload_n 60 S 1 1 dX9_ofBattenGoesOn_60 rfl rfl ?_
        refine gv_bipush 61 S (119 : Int32) dX9_ofBattenGoesOn_61 (by decide) ?_
        refine gv_icmp_ne 63 S 70 h dX9_ofBattenGoesOn_63 (by decide) (fun h => ?_) (fun h => ?_)
        · refine gv_iconst 70 S (0 : Int32) dX9_ofBattenGoesOn_70 (by decide) ?_
          exact gv_zretR 71 S h rfl dX9_ofBattenGoesOn_71
        · refine gv_iconst 66 S (1 : Int32) dX9_ofBattenGoesOn_66 (by decide) ?_
          refine gv_goto 67 S 71 dX9_ofBattenGoesOn_67 (by decide) ?_
          exact gv_zretR 71 S h rfl dX9_ofBattenGoesOn_71
  rw [if_neg hq2] at h
  by_cases hq5 : v0 = 5
  · rw [if_pos hq5] at h
    refine gv_lookup 1 S 72 dX9_ofBattenGoesOn_1 (by decide) (by rw [hq5] <;> rfl) (by decide) ?_
    refine gv_iload_n 72 S 1 1 dX9_ofBattenGoesOn_72 rfl rfl ?_
    refine gv_bipush 73 S (48 : Int32) dX9_ofBattenGoesOn_73 (by decide) ?_
    refine gv_bipush 75 S (51 : Int32) dX9_ofBattenGoesOn_75 (by decide) ?_
    obtain ⟨r3, hc4, h⟩ := br_some h
    refine gv_cSNi 77 S (As := [.int v1, .int (48 : Int32), .int (51 : Int32)]) (rest := []) (c_X10_within l X M v1 (48 : Int32) (51 : Int32) r3 hc4) ⟨va_cnB 3 S.1.2.2.2.2 gX9_ofBattenGoesOn_X10_within_n15 rfl rfl rfl S.2.2.2.2.2 (S.1.2.2.2.2 _ (by decide +kernel)) (by decide +kernel) ⟨Nat.le_of_ble_eq_true rfl, Nat.le_of_ble_eq_true rfl⟩, S.1.2.2.2.2 _ (by decide +kernel), trivial⟩ rfl rfl (Nat.le_of_ble_eq_true rfl) dX9_ofBattenGoesOn_77 ?_
    exact gv_zretRG 80 S h dX9_ofBattenGoesOn_80
  rw [if_neg hq5] at h
  refine gv_lookup 1 S 81 (off := 80) dX9_ofBattenGoesOn_1 (by decide) (by show Op.lookupswitch.offset [(0, 35), (1, 47), (5, 71)] 80 _ = _; rw [lv_osw (a := 0) hq1 rfl, lv_osw (a := 1) hq2 rfl, lv_osw (a := 5) hq5 rfl] <;> rfl) (by decide) ?_
  refine gv_iload_n 81 S 1 1 dX9_ofBattenGoesOn_81 rfl rfl ?_
  refine gv_bipush 82 S (48 : Int32) dX9_ofBattenGoesOn_82 (by decide) ?_
  refine gv_bipush 84 S (57 : Int32) dX9_ofBattenGoesOn_84 (by decide) ?_
  obtain ⟨r6, hc7, h⟩ := br_some h
  refine gv_cSNi 86 S (As := [.int v1, .int (48 : Int32), .int (57 : Int32)]) (rest := []) (c_X10_within l X M v1 (48 : Int32) (57 : Int32) r6 hc7) ⟨va_cnB 3 S.1.2.2.2.2 gX9_ofBattenGoesOn_X10_within_n15 rfl rfl rfl S.2.2.2.2.2 (S.1.2.2.2.2 _ (by decide +kernel)) (by decide +kernel) ⟨Nat.le_of_ble_eq_true rfl, Nat.le_of_ble_eq_true rfl⟩, S.1.2.2.2.2 _ (by decide +kernel), trivial⟩ rfl rfl (Nat.le_of_ble_eq_true rfl) dX9_ofBattenGoesOn_86 ?_
  exact gv_zretRG 89 S h dX9_ofBattenGoesOn_89
abbrev rm_X9_goesOn : Room := { frames := 2, cells := 0, slots := 0, locals := 43 }
set_option maxHeartbeats 4000000 in
set_option maxRecDepth 100000 in
theorem c_X9_goesOn (l : Launch) (X : GE) (M : MM) (v0 : Int32) (v1 : Int32) (r : Int32) (h : f_X9_goesOn M v0 v1 = some r) : CTi l yX9_goesOn wsX9_goesOn rm_X9_goesOn X [.int v0, .int v1] M r M := by
  refine ct_i (own := RX9) (by decide +kernel) rfl rfl (Nat.le_of_ble_eq_true rfl) (lv0 := [(0, .int v0), (1, .int v1)]) rfl ?_
  intro p e s m args below meth c S
  unfold f_X9_goesOn at h
  refine gv_iload_n 0 S 0 0 dX9_goesOn_0 rfl rfl ?_
  refine gv_bipush 1 S (52 : Int32) dX9_goesOn_1 (by decide) ?_
  refine gv_icmp_lt 3 S 8 h dX9_goesOn_3 (by decide) (fun h => ?_) (fun h => ?_)
  · refine gv_iload_n 8 S 0 0 dX9_goesOn_8 rfl rfl ?_
    by_cases hq1 : v0 = 0
    · rw [if_pos hq1] at h
      refine gv_tabIn 9 S 40 dX9_goesOn_9 (by rw [hq1]; decide) (by rw [hq1]; decide) (by rw [hq1] <;> rfl) (by decide) ?_
      refine gv_iload_n 40 S 1 1 dX9_goesOn_40 rfl rfl ?_
      refine gv_bipush 41 S (102 : Int32) dX9_goesOn_41 (by decide) ?_
      refine gv_icmp_ne 43 S 50 h dX9_goesOn_43 (by decide) (fun h => ?_) (fun h => ?_)
      · refine gv_iconst 50 S (0 : Int32) dX9_goesOn_50 (by decide) ?_
        exact gv_zretR 51 S h rfl dX9_goesOn_51
      · refine gv_iconst 46 S (1 : Int32) dX9_goesOn_46 (by decide) ?_
        refine gv_goto 47 S 51 dX9_goesOn_47 (by decide) ?_
        exact gv_zretR 51 S h rfl dX9_goesOn_51
    rw [if_neg hq1] at h
    by_cases hq4 : v0 = 1
    · rw [if_pos hq4] at h
      refine gv_tabIn 9 S 52 dX9_goesOn_9 (by rw [hq4]; decide) (by rw [hq4]; decide) (by rw [hq4] <;> rfl) (by decide) ?_
      refine gv_iload_n 52 S 1 1 dX9_goesOn_52 rfl rfl ?_
      refine gv_bipush 53 S (49 : Int32) dX9_goesOn_53 (by decide) ?_
      refine gv_bipush 55 S (54 : Int32) dX9_goesOn_55 (by decide) ?_
      obtain ⟨r2, hc3, h⟩ := br_some h
      refine gv_cSNi 57 S (As := [.int v1, .int (49 : Int32), .int (54 : Int32)]) (rest := []) (c_X10_within l X M v1 (49 : Int32) (54 : Int32) r2 hc3) ⟨va_cnB 3 S.1.2.2.2.2 gX9_goesOn_X10_within_n15 rfl rfl rfl S.2.2.2.2.2 (S.1.2.2.2.2 _ (by decide +kernel)) (by decide +kernel) ⟨Nat.le_of_ble_eq_true rfl, Nat.le_of_ble_eq_true rfl⟩, S.1.2.2.2.2 _ (by decide +kernel), trivial⟩ rfl rfl (Nat.le_of_ble_eq_true rfl) dX9_goesOn_57 ?_
      exact gv_zretRG 60 S h dX9_goesOn_60
    rw [if_neg hq4] at h
    by_cases hq7 : v0 = 2
    · rw [if_pos hq7] at h
      refine gv_tabIn 9 S 61 dX9_goesOn_9 (by rw [hq7]; decide) (by rw [hq7]; decide) (by rw [hq7] <;> rfl) (by decide) ?_
      refine gv_iload_n 61 S 1 1 dX9_goesOn_61 rfl rfl ?_
      refine gv_bipush 62 S (49 : Int32) dX9_goesOn_62 (by decide) ?_
      refine gv_bipush 64 S (57 : Int32) dX9_goesOn_64 (by decide) ?_
      obtain ⟨r5, hc6, h⟩ := br_some h
      refine gv_cSNi 66 S (As := [.int v1, .int (49 : Int32), .int (57 : Int32)]) (rest := []) (c_X10_within l X M v1 (49 : Int32) (57 : Int32) r5 hc6) ⟨va_cnB 3 S.1.2.2.2.2 gX9_goesOn_X10_within_n15 rfl rfl rfl S.2.2.2.2.2 (S.1.2.2.2.2 _ (by decide +kernel)) (by decide +kernel) ⟨Nat.le_of_ble_eq_true rfl, Nat.le_of_ble_eq_true rfl⟩, S.1.2.2.2.2 _ (by decide +kernel), trivial⟩ rfl rfl (Nat.le_of_ble_eq_true rfl) dX9_goesOn_66 ?_
      exact gv_zretRG 69 S h dX9_goesOn_69
    rw [if_neg hq7] at h
    by_cases hq10 : v0 = 3
    · rw [if_pos hq10] at h
      refine gv_tabIn 9 S 70 dX9_goesOn_9 (by rw [hq10]; decide) (by rw [hq10]; decide) (by rw [hq10] <;> rfl) (by decide) ?_
      refine gv_iload_n 70 S 1 1 dX9_goesOn_70 rfl rfl ?_
      refine gv_bipush 71 S (48 : Int32) dX9_goesOn_71 (by decide) ?_
      refine gv_bipush 73 S (57 : Int32) dX9_goesOn_73 (by decide) ?_
      obtain ⟨r8, hc9, h⟩ := br_some h
      refine gv_cSNi 75 S (As := [.int v1, .int (48 : Int32), .int (57 : Int32)]) (rest := []) (c_X10_within l X M v1 (48 : Int32) (57 : Int32) r8 hc9) ⟨va_cnB 3 S.1.2.2.2.2 gX9_goesOn_X10_within_n15 rfl rfl rfl S.2.2.2.2.2 (S.1.2.2.2.2 _ (by decide +kernel)) (by decide +kernel) ⟨Nat.le_of_ble_eq_true rfl, Nat.le_of_ble_eq_true rfl⟩, S.1.2.2.2.2 _ (by decide +kernel), trivial⟩ rfl rfl (Nat.le_of_ble_eq_true rfl) dX9_goesOn_75 ?_
      exact gv_zretRG 78 S h dX9_goesOn_78
    rw [if_neg hq10] at h
    have hq1 : ¬ v0.toInt = 0 := lv_neT hq1 rfl
    have hq4 : ¬ v0.toInt = 1 := lv_neT hq4 rfl
    have hq7 : ¬ v0.toInt = 2 := lv_neT hq7 rfl
    have hq10 : ¬ v0.toInt = 3 := lv_neT hq10 rfl
    refine gv_tabOut 9 S 79 dX9_goesOn_9 (by omega) (by decide) ?_
    refine gv_iload_n 79 S 0 0 dX9_goesOn_79 rfl rfl ?_
    refine gv_iconst 80 S (4 : Int32) dX9_goesOn_80 (by decide) ?_
    refine gv_isub 81 S dX9_goesOn_81 ?_
    refine gv_bipush 82 S (6 : Int32) dX9_goesOn_82 (by decide) ?_
    refine gv_irem 84 S (by decide) dX9_goesOn_84 ?_
    refine gv_iload_n 85 S 1 1 dX9_goesOn_85 rfl rfl ?_
    obtain ⟨r11, hc12, h⟩ := br_some h
    refine gv_cSi 86 S (As := [.int (rm32 (v0 - (4 : Int32)) (6 : Int32)), .int v1]) (rest := []) (c_X9_ofBattenGoesOn l X M (rm32 (v0 - (4 : Int32)) (6 : Int32)) v1 r11 hc12) (va_cwS 2 S.1.2.2.2.2 gX9_goesOn_X9_ofBattenGoesOn rfl rfl rfl (by decide +kernel) ⟨Nat.le_of_ble_eq_true rfl, Nat.le_of_ble_eq_true rfl⟩) rfl rfl (Nat.le_of_ble_eq_true rfl) dX9_goesOn_86 ?_
    exact gv_zretRG 89 S h dX9_goesOn_89
  · refine gv_iconst 6 S (0 : Int32) dX9_goesOn_6 (by decide) ?_
    exact gv_zretR 7 S h rfl dX9_goesOn_7
abbrev rm_X9_firstFault : Room := { frames := 3, cells := 0, slots := 0, locals := 64 }
set_option maxHeartbeats 4000000 in
set_option maxRecDepth 100000 in
theorem t_X9_firstFault_46 {p : Program} {l : Launch} {e : Env} {s : State} {m : MethodId} {args : Array Value} {below : List Frame} {meth : Method} {c : Code} {X : GE} {M : MM} {r : Int32} (S : CX p s m args meth c cX9_firstFault 4 wsX9_firstFault RX9 (some .int) X) (v2 : Int32) (h : g_X9_firstFault_46 M v2 = some r) : V p l e (headSpec wsX9_firstFault rm_X9_firstFault).room s m args below meth c 4 X (MQ below (gQi X r M) args s 0 0 (gA X)) M 46 [(2, .int v2)] [] := by
  unfold g_X9_firstFault_46 at h
  refine gv_iconst 46 S (0 : Int32) dX9_firstFault_46 (by decide) ?_
  refine gv_istore_n 47 S 3 (lv' := [(3, .int (0 : Int32)), (2, .int v2)]) dX9_firstFault_47 rfl (Nat.le_of_ble_eq_true rfl) rfl ?_
  refine gv_iload_n 48 S 3 0 dX9_firstFault_48 rfl rfl ?_
  refine gv_if_eq 49 S 57 h dX9_firstFault_49 (by decide) (fun h => ?_) (fun h => ?_)
  · refine gv_iload_n 57 S 2 1 dX9_firstFault_57 rfl rfl ?_
    exact gv_iretR 58 S h dX9_firstFault_58
  · refine gv_bipush 52 S (-9 : Int32) dX9_firstFault_52 (by decide) ?_
    refine gv_goto 54 S 58 dX9_firstFault_54 (by decide) ?_
    exact gv_iretR 58 S h dX9_firstFault_58
set_option maxHeartbeats 4000000 in
set_option maxRecDepth 100000 in
theorem t_X9_firstFault_2 {p : Program} {l : Launch} {e : Env} {s : State} {m : MethodId} {args : Array Value} {below : List Frame} {meth : Method} {c : Code} {X : GE} {M : MM} {r : Int32} (S : CX p s m args meth c cX9_firstFault 4 wsX9_firstFault RX9 (some .int) X) (k0 : Nat) (hk0 : hI X k0 60) : ∀ (n : Nat) (v1 : Int32) (v2 : Int32) (v3 : Int32) (h : g_X9_firstFault_2 M k0 n v1 v2 v3 = some r), V p l e (headSpec wsX9_firstFault rm_X9_firstFault).room s m args below meth c 4 X (MQ below (gQi X r M) args s 0 0 (gA X)) M 2 [(0, .ref (X.2.2 k0)), (1, .int v1), (2, .int v2), (3, .int v3)] [] := by
  intro n
  induction n with
  | zero =>
    intro v1 v2 v3 h
    rw [g_X9_firstFault_2] at h
    cases h
  | succ n ih =>
    intro v1 v2 v3 h
    rw [g_X9_firstFault_2] at h
    refine gv_iload_n 2 S 3 3 dX9_firstFault_2 rfl rfl ?_
    refine gv_iload_n 3 S 2 2 dX9_firstFault_3 rfl rfl ?_
    refine gv_icmp_ge 4 S 27 h dX9_firstFault_4 (by decide) (fun h => ?_) (fun h => ?_)
    · refine gv_iload_n 27 S 2 2 dX9_firstFault_27 rfl rfl ?_
      refine gv_bipush 28 S (16 : Int32) dX9_firstFault_28 (by decide) ?_
      refine gv_icmp_lt 30 S 46 h dX9_firstFault_30 (by decide) (fun h => ?_) (fun h => ?_)
      · exact gv_sub [2] rfl (t_X9_firstFault_46 S v2 h)
      · refine gv_iload_n 33 S 2 2 dX9_firstFault_33 rfl rfl ?_
        refine gv_iconst 34 S (4 : Int32) dX9_firstFault_34 (by decide) ?_
        refine gv_isub 35 S dX9_firstFault_35 ?_
        refine gv_bipush 36 S (6 : Int32) dX9_firstFault_36 (by decide) ?_
        refine gv_irem 38 S (by decide) dX9_firstFault_38 ?_
        refine gv_if_ne 39 S 46 h dX9_firstFault_39 (by decide) (fun h => ?_) (fun h => ?_)
        · exact gv_sub [2] rfl (t_X9_firstFault_46 S v2 h)
        · refine gv_iconst 42 S (1 : Int32) dX9_firstFault_42 (by decide) ?_
          refine gv_goto 43 S 47 dX9_firstFault_43 (by decide) ?_
          refine gv_istore_n 47 S 3 (lv' := [(3, .int (1 : Int32)), (0, .ref (X.2.2 k0)), (1, .int v1), (2, .int v2)]) dX9_firstFault_47 rfl (Nat.le_of_ble_eq_true rfl) rfl ?_
          refine gv_iload_n 48 S 3 0 dX9_firstFault_48 rfl rfl ?_
          refine gv_if_eq 49 S 57 h dX9_firstFault_49 (by decide) (fun h => ?_) (fun h => ?_)
          · refine gv_iload_n 57 S 2 3 dX9_firstFault_57 rfl rfl ?_
            exact gv_iretR 58 S h dX9_firstFault_58
          · refine gv_bipush 52 S (-9 : Int32) dX9_firstFault_52 (by decide) ?_
            refine gv_goto 54 S 58 dX9_firstFault_54 (by decide) ?_
            exact gv_iretR 58 S h dX9_firstFault_58
    · refine gv_iload_n 7 S 3 3 dX9_firstFault_7 rfl rfl ?_
      refine gv_aload_n 8 S 0 0 dX9_firstFault_8 rfl rfl ?_
      refine gv_iload_n 9 S 1 1 dX9_firstFault_9 rfl rfl ?_
      refine gv_iload_n 10 S 3 3 dX9_firstFault_10 rfl rfl ?_
      refine gv_iadd 11 S dX9_firstFault_11 ?_
      refine gv_iald 12 S h hk0 dX9_firstFault_12 (fun h => ?_)
      obtain ⟨r1, hc2, h⟩ := br_some h
      refine gv_cSi 13 S (As := [.int v3, .int (M k0 (v1 + v3).toNatClampNeg)]) (rest := []) (c_X9_goesOn l X M v3 (M k0 (v1 + v3).toNatClampNeg) r1 hc2) (va_cwS 2 S.1.2.2.2.2 gX9_firstFault_X9_goesOn rfl rfl rfl (by decide +kernel) ⟨Nat.le_of_ble_eq_true rfl, Nat.le_of_ble_eq_true rfl⟩) rfl rfl (Nat.le_of_ble_eq_true rfl) dX9_firstFault_13 ?_
      refine gv_if_ne 16 S 21 h dX9_firstFault_16 (by decide) (fun h => ?_) (fun h => ?_)
      · refine gv_iinc 21 S 3 (v3 + (1 : Int32)) (lv' := [(3, .int (v3 + (1 : Int32))), (0, .ref (X.2.2 k0)), (1, .int v1), (2, .int v2)]) dX9_firstFault_21 rfl rfl (Nat.le_of_ble_eq_true rfl) rfl ?_
        refine gv_goto 24 S 2 dX9_firstFault_24 (by decide) ?_
        exact gv_sub [1, 2, 3, 0] rfl (ih v1 v2 (v3 + (1 : Int32)) h)
      · refine gv_iload_n 19 S 3 3 dX9_firstFault_19 rfl rfl ?_
        exact gv_iretR 20 S h dX9_firstFault_20
set_option maxHeartbeats 4000000 in
set_option maxRecDepth 100000 in
theorem c_X9_firstFault (l : Launch) (X : GE) (M : MM) (k0 : Nat) (v1 : Int32) (v2 : Int32) (hk0 : hI X k0 60) (r : Int32) (h : f_X9_firstFault M k0 v1 v2 = some r) : CTi l yX9_firstFault wsX9_firstFault rm_X9_firstFault X [.ref (X.2.2 k0), .int v1, .int v2] M r M := by
  refine ct_i (own := RX9) (by decide +kernel) rfl rfl (Nat.le_of_ble_eq_true rfl) (lv0 := [(0, .ref (X.2.2 k0)), (1, .int v1), (2, .int v2)]) rfl ?_
  intro p e s m args below meth c S
  unfold f_X9_firstFault at h
  refine gv_iconst 0 S (0 : Int32) dX9_firstFault_0 (by decide) ?_
  refine gv_istore_n 1 S 3 (lv' := [(3, .int (0 : Int32)), (0, .ref (X.2.2 k0)), (1, .int v1), (2, .int v2)]) dX9_firstFault_1 rfl (Nat.le_of_ble_eq_true rfl) rfl ?_
  exact gv_sub [1, 2, 3, 0] rfl (t_X9_firstFault_2 S k0 hk0 FU v1 v2 (0 : Int32) h)
abbrev rm_X10_isSheet : Room := { frames := 1, cells := 0, slots := 0, locals := 22 }
set_option maxHeartbeats 4000000 in
set_option maxRecDepth 100000 in
theorem c_X10_isSheet (l : Launch) (X : GE) (M : MM) (v0 : Int32) (r : Int32) (h : f_X10_isSheet M v0 = some r) : CTi l yX10_isSheet wsX10_isSheet rm_X10_isSheet X [.int v0] M r M := by
  refine ct_i (own := RX10) (by decide +kernel) rfl rfl (Nat.le_of_ble_eq_true rfl) (lv0 := [(0, .int v0)]) rfl ?_
  intro p e s m args below meth c S
  unfold f_X10_isSheet at h
  refine gv_iload_n 0 S 0 0 dX10_isSheet_0 rfl rfl ?_
  refine gv_iconst 1 S (0 : Int32) dX10_isSheet_1 (by decide) ?_
  refine gv_iconst 2 S (3 : Int32) dX10_isSheet_2 (by decide) ?_
  obtain ⟨r1, hc2, h⟩ := br_some h
  refine gv_cSi 3 S (As := [.int v0, .int (0 : Int32), .int (3 : Int32)]) (rest := []) (c_X10_within l X M v0 (0 : Int32) (3 : Int32) r1 hc2) (va_cwS 3 S.1.2.2.2.2 gX10_isSheet_X10_within rfl rfl rfl (by decide +kernel) ⟨Nat.le_of_ble_eq_true rfl, Nat.le_of_ble_eq_true rfl⟩) rfl rfl (Nat.le_of_ble_eq_true rfl) dX10_isSheet_3 ?_
  exact gv_zretRG 6 S h dX10_isSheet_6
abbrev rm_X10_isLane : Room := { frames := 1, cells := 0, slots := 0, locals := 22 }
set_option maxHeartbeats 4000000 in
set_option maxRecDepth 100000 in
theorem c_X10_isLane (l : Launch) (X : GE) (M : MM) (v0 : Int32) (r : Int32) (h : f_X10_isLane M v0 = some r) : CTi l yX10_isLane wsX10_isLane rm_X10_isLane X [.int v0] M r M := by
  refine ct_i (own := RX10) (by decide +kernel) rfl rfl (Nat.le_of_ble_eq_true rfl) (lv0 := [(0, .int v0)]) rfl ?_
  intro p e s m args below meth c S
  unfold f_X10_isLane at h
  refine gv_iload_n 0 S 0 0 dX10_isLane_0 rfl rfl ?_
  refine gv_iconst 1 S (0 : Int32) dX10_isLane_1 (by decide) ?_
  refine gv_iconst 2 S (2 : Int32) dX10_isLane_2 (by decide) ?_
  obtain ⟨r1, hc2, h⟩ := br_some h
  refine gv_cSi 3 S (As := [.int v0, .int (0 : Int32), .int (2 : Int32)]) (rest := []) (c_X10_within l X M v0 (0 : Int32) (2 : Int32) r1 hc2) (va_cwS 3 S.1.2.2.2.2 gX10_isLane_X10_within rfl rfl rfl (by decide +kernel) ⟨Nat.le_of_ble_eq_true rfl, Nat.le_of_ble_eq_true rfl⟩) rfl rfl (Nat.le_of_ble_eq_true rfl) dX10_isLane_3 ?_
  exact gv_zretRG 6 S h dX10_isLane_6
theorem mi_X10_faulted_10 : ∀ w ∈ u_ws RX10 TX10 12, w ∈ wsX10_faulted := by decide +kernel
theorem mp_X10_faulted_78 : MP wsX10_faulted RX10 78 9 11 .int := ⟨RX10, TX10, 12, tyX10, rfl, by decide, mi_X10_faulted_10, by decide +kernel, tyX10_ok, nmX10, rfl, by decide +kernel⟩
abbrev rm_X10_faulted : Room := { frames := 0, cells := 0, slots := 0, locals := 0 }
set_option maxHeartbeats 4000000 in
set_option maxRecDepth 100000 in
theorem c_X10_faulted (l : Launch) (X : GE) (M : MM) (v1 : Int32) (r : Int32) (M' : MM) (h : f_X10_faulted M v1 = some (r, M')) : CTi l yX10_faulted wsX10_faulted rm_X10_faulted X [.ref (X.2.2 0), .int v1] M r M' := by
  refine ct_i (own := RX10) (by decide +kernel) rfl rfl (Nat.le_of_ble_eq_true rfl) (lv0 := [(0, .ref (X.2.2 0)), (1, .int v1)]) rfl ?_
  intro p e s m args below meth c S
  unfold f_X10_faulted at h
  refine gv_aload_n 0 S 0 0 dX10_faulted_0 rfl rfl ?_
  refine gv_iload_n 1 S 1 1 dX10_faulted_1 rfl rfl ?_
  refine gv_put 2 S h (hP_0_lastFault X) mp_X10_faulted_78 rfl rfl dX10_faulted_2 (fun M1 h => ?_)
  refine gv_bipush 5 S (-10 : Int32) dX10_faulted_5 (by decide) ?_
  refine gv_iload_n 7 S 1 1 dX10_faulted_7 rfl rfl ?_
  refine gv_isub 8 S dX10_faulted_8 ?_
  exact gv_iret 9 S h dX10_faulted_9
theorem mi_X10_loft_10 : ∀ w ∈ u_ws RX10 TX10 12, w ∈ wsX10_loft := by decide +kernel
theorem mp_X10_loft_78 : MP wsX10_loft RX10 78 9 11 .int := ⟨RX10, TX10, 12, tyX10, rfl, by decide, mi_X10_loft_10, by decide +kernel, tyX10_ok, nmX10, rfl, by decide +kernel⟩
theorem mf_X10_loft_13 : MF wsX10_loft RX10 13 9 0 := ⟨RX10, TX10, 12, rfl, by decide, mi_X10_loft_10, by decide +kernel⟩
theorem mi_X10_loft_7 : ∀ w ∈ u_ws RX7 TX7 4, w ∈ wsX10_loft := by decide +kernel
theorem mf_X10_loft_97 : MF wsX10_loft RX10 97 7 0 := ⟨RX7, TX7, 4, rfl, by decide, mi_X10_loft_7, by decide +kernel⟩
theorem mf_X10_loft_32 : MF wsX10_loft RX10 32 9 1 := ⟨RX10, TX10, 12, rfl, by decide, mi_X10_loft_10, by decide +kernel⟩
theorem mf_X10_loft_39 : MF wsX10_loft RX10 39 9 2 := ⟨RX10, TX10, 12, rfl, by decide, mi_X10_loft_10, by decide +kernel⟩
theorem mf_X10_loft_46 : MF wsX10_loft RX10 46 9 5 := ⟨RX10, TX10, 12, rfl, by decide, mi_X10_loft_10, by decide +kernel⟩
theorem mi_X10_loft_5 : ∀ w ∈ u_ws RX5 TX5 4, w ∈ wsX10_loft := by decide +kernel
theorem mp_X10_loft_114 : MP wsX10_loft RX10 114 5 3 .int := ⟨RX5, TX5, 4, tyX5, rfl, by decide, mi_X10_loft_5, by decide +kernel, tyX5_ok, nmX5, rfl, by decide +kernel⟩
theorem mi_X10_loft_1 : ∀ w ∈ u_ws RX1 TX1 4, w ∈ wsX10_loft := by decide +kernel
theorem mf_X10_loft_117 : MF wsX10_loft RX10 117 1 3 := ⟨RX1, TX1, 4, rfl, by decide, mi_X10_loft_1, by decide +kernel⟩
theorem mf_X10_loft_25 : MF wsX10_loft RX10 25 9 4 := ⟨RX10, TX10, 12, rfl, by decide, mi_X10_loft_10, by decide +kernel⟩
abbrev rm_X10_loft : Room := { frames := 4, cells := 0, slots := 0, locals := 87 }
set_option maxHeartbeats 4000000 in
set_option maxRecDepth 100000 in
theorem t_X10_loft_114 {p : Program} {l : Launch} {e : Env} {s : State} {m : MethodId} {args : Array Value} {below : List Frame} {meth : Method} {c : Code} {X : GE} {r : Int32} {M' : MM} (S : CX p s m args meth c cX10_loft 9 wsX10_loft RX10 (some .int) X) : ∀ (n : Nat) (M : MM) (v8 : Int32) (h : g_X10_loft_114 n M v8 = some (r, M')), V p l e (headSpec wsX10_loft rm_X10_loft).room s m args below meth c 9 X (MQ below (gQi X r M') args s 0 0 (gA X)) M 114 [(0, .ref (X.2.2 0)), (8, .int v8)] [] := by
  intro n
  induction n with
  | zero =>
    intro M v8 h
    rw [g_X10_loft_114] at h
    cases h
  | succ n ih =>
    intro M v8 h
    rw [g_X10_loft_114] at h
    refine gv_iload 114 S 1 dX10_loft_114 rfl ?_
    refine gv_iconst 116 S (2 : Int32) dX10_loft_116 (by decide) ?_
    refine gv_icmp_ge 117 S 134 h dX10_loft_117 (by decide) (fun h => ?_) (fun h => ?_)
    · refine gv_aload_n 134 S 0 0 dX10_loft_134 rfl rfl ?_
      refine gv_get 135 S (hF_0_loft X) mf_X10_loft_32 dX10_loft_135 ?_
      refine gv_get 138 S (hF_20_count X) mf_X10_loft_117 dX10_loft_138 ?_
      exact gv_iret 141 S h dX10_loft_141
    · refine gv_aload_n 120 S 0 0 dX10_loft_120 rfl rfl ?_
      refine gv_get 121 S (hF_0_kept X) mf_X10_loft_25 dX10_loft_121 ?_
      refine gv_iload 124 S 1 dX10_loft_124 rfl ?_
      refine gv_iconst 126 S (0 : Int32) dX10_loft_126 (by decide) ?_
      refine gv_zast 127 S h (by decide) (hZ_19 X) dX10_loft_127 (fun M21 h => ?_)
      refine gv_iinc 128 S 1 (v8 + (1 : Int32)) (lv' := [(8, .int (v8 + (1 : Int32))), (0, .ref (X.2.2 0))]) dX10_loft_128 rfl rfl (Nat.le_of_ble_eq_true rfl) rfl ?_
      refine gv_goto 131 S 114 dX10_loft_131 (by decide) ?_
      exact gv_sub [1, 0] rfl (ih M21 (v8 + (1 : Int32)) h)
set_option maxHeartbeats 4000000 in
set_option maxRecDepth 100000 in
theorem c_X10_loft (l : Launch) (X : GE) (M : MM) (v1 : Int32) (v2 : Int32) (v3 : Int32) (v4 : Int32) (r : Int32) (M' : MM) (h : f_X10_loft M v1 v2 v3 v4 = some (r, M')) : CTi l yX10_loft wsX10_loft rm_X10_loft X [.ref (X.2.2 0), .int v1, .int v2, .int v3, .int v4] M r M' := by
  refine ct_i (own := RX10) (by decide +kernel) rfl rfl (Nat.le_of_ble_eq_true rfl) (lv0 := [(0, .ref (X.2.2 0)), (1, .int v1), (2, .int v2), (3, .int v3), (4, .int v4)]) rfl ?_
  intro p e s m args below meth c S
  unfold f_X10_loft at h
  refine gv_aload_n 0 S 0 0 dX10_loft_0 rfl rfl ?_
  refine gv_iconst 1 S (0 : Int32) dX10_loft_1 (by decide) ?_
  refine gv_put 2 S h (hP_0_lastFault X) mp_X10_loft_78 rfl rfl dX10_loft_2 (fun M1 h => ?_)
  refine gv_iload_n 5 S 1 1 dX10_loft_5 rfl rfl ?_
  obtain ⟨r2, hc3, h⟩ := br_some h
  refine gv_cSi 6 S (As := [.int v1]) (rest := []) (c_X10_isSheet l X M1 v1 r2 hc3) (va_cwS 1 S.1.2.2.2.2 gX10_loft_X10_isSheet rfl rfl rfl (by decide +kernel) ⟨Nat.le_of_ble_eq_true rfl, Nat.le_of_ble_eq_true rfl⟩) rfl rfl (Nat.le_of_ble_eq_true rfl) dX10_loft_6 ?_
  refine gv_if_ne 9 S 14 h dX10_loft_9 (by decide) (fun h => ?_) (fun h => ?_)
  · refine gv_iload_n 14 S 2 2 dX10_loft_14 rfl rfl ?_
    obtain ⟨r4, hc5, h⟩ := br_some h
    refine gv_cSi 15 S (As := [.int v2]) (rest := []) (c_X10_isLane l X M1 v2 r4 hc5) (va_cwS 1 S.1.2.2.2.2 gX10_loft_X10_isLane rfl rfl rfl (by decide +kernel) ⟨Nat.le_of_ble_eq_true rfl, Nat.le_of_ble_eq_true rfl⟩) rfl rfl (Nat.le_of_ble_eq_true rfl) dX10_loft_15 ?_
    refine gv_if_ne 18 S 24 h dX10_loft_18 (by decide) (fun h => ?_) (fun h => ?_)
    · refine gv_aload_n 24 S 0 0 dX10_loft_24 rfl rfl ?_
      refine gv_get 25 S (hF_0_sheets X) mf_X10_loft_13 dX10_loft_25 ?_
      refine gv_iload_n 28 S 1 1 dX10_loft_28 rfl rfl ?_
      refine gv_aald 29 S h (hR_1 X) rfl dX10_loft_29 (fun hq6 h => ?_)
      refine gv_astore 30 S (lv' := [(5, .ref (X.2.2 (2 + 2 * v1.toNatClampNeg))), (0, .ref (X.2.2 0)), (1, .int v1), (2, .int v2), (3, .int v3), (4, .int v4)]) dX10_loft_30 (Nat.le_of_ble_eq_true rfl) rfl ?_
      refine gv_aload 32 S 0 dX10_loft_32 rfl ?_
      refine gv_iload_n 34 S 2 3 dX10_loft_34 rfl rfl ?_
      refine gv_iload_n 35 S 3 4 dX10_loft_35 rfl rfl ?_
      refine gv_iload 36 S 5 dX10_loft_36 rfl ?_
      obtain ⟨r7, hc8, h⟩ := br_some h
      refine gv_cVi 38 S (As := [.int v2, .int v3, .int v4]) (rest := []) (c_X7_faultOf l X M1 (2 + 2 * v1.toNatClampNeg) v2 v3 v4 (isSh_at hq6) r7 hc8) (hO_Sh (isSh_at hq6)) rfl (cwV 3 S.1.2.2.2.2 gX10_loft_X7_faultOf rfl rfl rfl (by decide +kernel) ⟨Nat.le_of_ble_eq_true rfl, Nat.le_of_ble_eq_true rfl⟩) rfl rfl (Nat.le_of_ble_eq_true rfl) dX10_loft_38 ?_
      refine gv_istore 41 S (lv' := [(6, .int r7), (5, .ref (X.2.2 (2 + 2 * v1.toNatClampNeg))), (0, .ref (X.2.2 0)), (1, .int v1), (2, .int v2), (3, .int v3), (4, .int v4)]) dX10_loft_41 (Nat.le_of_ble_eq_true rfl) rfl ?_
      refine gv_iload 43 S 0 dX10_loft_43 rfl ?_
      refine gv_if_eq 45 S 55 h dX10_loft_45 (by decide) (fun h => ?_) (fun h => ?_)
      · refine gv_aload 55 S 1 dX10_loft_55 rfl ?_
        refine gv_get 57 S (hF_Sh_cells (isSh_at hq6)) mf_X10_loft_97 dX10_loft_57 ?_
        refine gv_iload_n 60 S 3 5 dX10_loft_60 rfl rfl ?_
        refine gv_iload 61 S 6 dX10_loft_61 rfl ?_
        obtain ⟨r9, hc10, h⟩ := br_some h
        refine gv_cSi 63 S (As := [.ref (X.2.2 ((2 + 2 * v1.toNatClampNeg) + 1)), .int v3, .int v4]) (rest := []) (c_X9_firstFault l X M1 ((2 + 2 * v1.toNatClampNeg) + 1) v3 v4 (hI_Sh_cells (isSh_at hq6)) r9 hc10) (va_cwS 3 S.1.2.2.2.2 gX10_loft_X9_firstFault rfl rfl rfl (by decide +kernel) ⟨Nat.le_of_ble_eq_true rfl, Nat.le_of_ble_eq_true rfl⟩) rfl rfl (Nat.le_of_ble_eq_true rfl) dX10_loft_63 ?_
        refine gv_istore 66 S (lv' := [(7, .int r9), (6, .int r7), (5, .ref (X.2.2 (2 + 2 * v1.toNatClampNeg))), (0, .ref (X.2.2 0)), (1, .int v1), (2, .int v2), (3, .int v3), (4, .int v4)]) dX10_loft_66 (Nat.le_of_ble_eq_true rfl) rfl ?_
        refine gv_iload 68 S 0 dX10_loft_68 rfl ?_
        refine gv_bipush 70 S (-9 : Int32) dX10_loft_70 (by decide) ?_
        refine gv_icmp_eq 72 S 81 h dX10_loft_72 (by decide) (fun h => ?_) (fun h => ?_)
        · refine gv_aload_n 81 S 0 3 dX10_loft_81 rfl rfl ?_
          refine gv_get 82 S (hF_0_loft X) mf_X10_loft_32 dX10_loft_82 ?_
          refine gv_aload 85 S 2 dX10_loft_85 rfl ?_
          refine gv_get 87 S (hF_Sh_cells (isSh_at hq6)) mf_X10_loft_97 dX10_loft_87 ?_
          refine gv_iload_n 90 S 3 6 dX10_loft_90 rfl rfl ?_
          refine gv_iload 91 S 7 dX10_loft_91 rfl ?_
          obtain ⟨M12, hc13, h⟩ := br_some h
          refine gv_cVv 93 S (As := [.ref (X.2.2 ((2 + 2 * v1.toNatClampNeg) + 1)), .int v3, .int v4]) (rest := []) (c_X1_build l X M1 ((2 + 2 * v1.toNatClampNeg) + 1) v3 v4 (hI_Sh_cells (isSh_at hq6)) M12 hc13) (hO_20 X) rfl (cwV 3 S.1.2.2.2.2 gX10_loft_X1_build rfl rfl rfl (by decide +kernel) ⟨Nat.le_of_ble_eq_true rfl, Nat.le_of_ble_eq_true rfl⟩) rfl rfl (Nat.le_of_ble_eq_true rfl) dX10_loft_93 ?_
          refine gv_aload_n 96 S 0 3 dX10_loft_96 rfl rfl ?_
          refine gv_get 97 S (hF_0_past X) mf_X10_loft_39 dX10_loft_97 ?_
          obtain ⟨M15, hc16, h⟩ := br_some h
          refine gv_cVv 100 S (As := []) (rest := []) (c_X3_forget l X M12 M15 hc16) (hO_27 X) rfl (cwV 0 S.1.2.2.2.2 gX10_loft_X3_forget rfl rfl rfl (by decide +kernel) ⟨Nat.le_of_ble_eq_true rfl, Nat.le_of_ble_eq_true rfl⟩) rfl rfl (Nat.le_of_ble_eq_true rfl) dX10_loft_100 ?_
          refine gv_aload_n 103 S 0 3 dX10_loft_103 rfl rfl ?_
          refine gv_get 104 S (hF_0_readings X) mf_X10_loft_46 dX10_loft_104 ?_
          refine gv_iconst 107 S (0 : Int32) dX10_loft_107 (by decide) ?_
          refine gv_put 108 S h (hP_61_count X) mp_X10_loft_114 rfl rfl dX10_loft_108 (fun M17 h => ?_)
          refine gv_iconst 111 S (0 : Int32) dX10_loft_111 (by decide) ?_
          refine gv_istore 112 S (lv' := [(8, .int (0 : Int32)), (7, .int r9), (6, .int r7), (5, .ref (X.2.2 (2 + 2 * v1.toNatClampNeg))), (0, .ref (X.2.2 0)), (1, .int v1), (2, .int v2), (3, .int v3), (4, .int v4)]) dX10_loft_112 (Nat.le_of_ble_eq_true rfl) rfl ?_
          exact gv_sub [4, 0] rfl (t_X10_loft_114 S FU M17 (0 : Int32) h)
        · refine gv_bipush 75 S (-100 : Int32) dX10_loft_75 (by decide) ?_
          refine gv_iload 77 S 0 dX10_loft_77 rfl ?_
          refine gv_isub 79 S dX10_loft_79 ?_
          exact gv_iret 80 S h dX10_loft_80
      · refine gv_aload_n 48 S 0 2 dX10_loft_48 rfl rfl ?_
        refine gv_iload 49 S 0 dX10_loft_49 rfl ?_
        obtain ⟨r18, M19, hc20, h⟩ := bi_some h
        refine gv_cVi 51 S (As := [.int r7]) (rest := []) (c_X10_faulted l X M1 r7 r18 M19 hc20) (hO_0 X) rfl (cwV 1 S.1.2.2.2.2 gX10_loft_X10_faulted rfl rfl rfl (by decide +kernel) ⟨Nat.le_of_ble_eq_true rfl, Nat.le_of_ble_eq_true rfl⟩) rfl rfl (Nat.le_of_ble_eq_true rfl) dX10_loft_51 ?_
        exact gv_iret 54 S h dX10_loft_54
    · refine gv_bipush 21 S (-2 : Int32) dX10_loft_21 (by decide) ?_
      exact gv_iret 23 S h dX10_loft_23
  · refine gv_iconst 12 S (-1 : Int32) dX10_loft_12 (by decide) ?_
    exact gv_iret 13 S h dX10_loft_13
theorem mi_X10_ofBatten_10 : ∀ w ∈ u_ws RX10 TX10 12, w ∈ wsX10_ofBatten := by decide +kernel
theorem mf_X10_ofBatten_32 : MF wsX10_ofBatten RX10 32 9 1 := ⟨RX10, TX10, 12, rfl, by decide, mi_X10_ofBatten_10, by decide +kernel⟩
theorem mi_X10_ofBatten_1 : ∀ w ∈ u_ws RX1 TX1 4, w ∈ wsX10_ofBatten := by decide +kernel
theorem mf_X10_ofBatten_121 : MF wsX10_ofBatten RX10 121 1 0 := ⟨RX1, TX1, 4, rfl, by decide, mi_X10_ofBatten_1, by decide +kernel⟩
theorem mf_X10_ofBatten_124 : MF wsX10_ofBatten RX10 124 1 2 := ⟨RX1, TX1, 4, rfl, by decide, mi_X10_ofBatten_1, by decide +kernel⟩
theorem mi_X10_ofBatten_6 : ∀ w ∈ u_ws RX6 TX6 6, w ∈ wsX10_ofBatten := by decide +kernel
theorem mf_X10_ofBatten_128 : MF wsX10_ofBatten RX10 128 6 0 := ⟨RX6, TX6, 6, rfl, by decide, mi_X10_ofBatten_6, by decide +kernel⟩
theorem mf_X10_ofBatten_131 : MF wsX10_ofBatten RX10 131 6 1 := ⟨RX6, TX6, 6, rfl, by decide, mi_X10_ofBatten_6, by decide +kernel⟩
theorem mf_X10_ofBatten_134 : MF wsX10_ofBatten RX10 134 6 2 := ⟨RX6, TX6, 6, rfl, by decide, mi_X10_ofBatten_6, by decide +kernel⟩
theorem mf_X10_ofBatten_137 : MF wsX10_ofBatten RX10 137 1 1 := ⟨RX1, TX1, 4, rfl, by decide, mi_X10_ofBatten_1, by decide +kernel⟩
abbrev rm_X10_ofBatten : Room := { frames := 3, cells := 0, slots := 0, locals := 57 }
set_option maxHeartbeats 4000000 in
set_option maxRecDepth 100000 in
theorem c_X10_ofBatten (l : Launch) (X : GE) (M : MM) (v1 : Int32) (v2 : Int32) (r : Int32) (h : f_X10_ofBatten M v1 v2 = some r) : CTi l yX10_ofBatten wsX10_ofBatten rm_X10_ofBatten X [.ref (X.2.2 0), .int v1, .int v2] M r M := by
  refine ct_i (own := RX10) (by decide +kernel) rfl rfl (Nat.le_of_ble_eq_true rfl) (lv0 := [(0, .ref (X.2.2 0)), (1, .int v1), (2, .int v2)]) rfl ?_
  intro p e s m args below meth c S
  unfold f_X10_ofBatten at h
  refine gv_aload_n 0 S 0 0 dX10_ofBatten_0 rfl rfl ?_
  refine gv_get 1 S (hF_0_loft X) mf_X10_ofBatten_32 dX10_ofBatten_1 ?_
  refine gv_iload_n 4 S 1 1 dX10_ofBatten_4 rfl rfl ?_
  obtain ⟨r1, hc2, h⟩ := br_some h
  refine gv_cVi 5 S (As := [.int v1]) (rest := []) (c_X1_has l X M v1 r1 hc2) (hO_20 X) rfl (cwV 1 S.1.2.2.2.2 gX10_ofBatten_X1_has rfl rfl rfl (by decide +kernel) ⟨Nat.le_of_ble_eq_true rfl, Nat.le_of_ble_eq_true rfl⟩) rfl rfl (Nat.le_of_ble_eq_true rfl) dX10_ofBatten_5 ?_
  refine gv_if_ne 8 S 13 h dX10_ofBatten_8 (by decide) (fun h => ?_) (fun h => ?_)
  · refine gv_iload_n 13 S 2 2 dX10_ofBatten_13 rfl rfl ?_
    by_cases hq3 : v2 = 0
    · rw [if_pos hq3] at h
      refine gv_tabIn 14 S 56 dX10_ofBatten_14 (by rw [hq3]; decide) (by rw [hq3]; decide) (by rw [hq3] <;> rfl) (by decide) ?_
      refine gv_aload_n 56 S 0 0 dX10_ofBatten_56 rfl rfl ?_
      refine gv_get 57 S (hF_0_loft X) mf_X10_ofBatten_32 dX10_ofBatten_57 ?_
      refine gv_get 60 S (hF_20_kind X) mf_X10_ofBatten_121 dX10_ofBatten_60 ?_
      refine gv_iload_n 63 S 1 1 dX10_ofBatten_63 rfl rfl ?_
      refine gv_iald 64 S h (hI_21 X) dX10_ofBatten_64 (fun h => ?_)
      exact gv_iretR 65 S h dX10_ofBatten_65
    rw [if_neg hq3] at h
    by_cases hq4 : v2 = 1
    · rw [if_pos hq4] at h
      refine gv_tabIn 14 S 66 dX10_ofBatten_14 (by rw [hq4]; decide) (by rw [hq4]; decide) (by rw [hq4] <;> rfl) (by decide) ?_
      refine gv_aload_n 66 S 0 0 dX10_ofBatten_66 rfl rfl ?_
      refine gv_get 67 S (hF_0_loft X) mf_X10_ofBatten_32 dX10_ofBatten_67 ?_
      refine gv_get 70 S (hF_20_now X) mf_X10_ofBatten_124 dX10_ofBatten_70 ?_
      refine gv_get 73 S (hF_23_load X) mf_X10_ofBatten_128 dX10_ofBatten_73 ?_
      refine gv_iload_n 76 S 1 1 dX10_ofBatten_76 rfl rfl ?_
      refine gv_iald 77 S h (hI_24 X) dX10_ofBatten_77 (fun h => ?_)
      exact gv_iretR 78 S h dX10_ofBatten_78
    rw [if_neg hq4] at h
    by_cases hq5 : v2 = 2
    · rw [if_pos hq5] at h
      refine gv_tabIn 14 S 79 dX10_ofBatten_14 (by rw [hq5]; decide) (by rw [hq5]; decide) (by rw [hq5] <;> rfl) (by decide) ?_
      refine gv_aload_n 79 S 0 0 dX10_ofBatten_79 rfl rfl ?_
      refine gv_get 80 S (hF_0_loft X) mf_X10_ofBatten_32 dX10_ofBatten_80 ?_
      refine gv_get 83 S (hF_20_now X) mf_X10_ofBatten_124 dX10_ofBatten_83 ?_
      refine gv_get 86 S (hF_23_bricks X) mf_X10_ofBatten_131 dX10_ofBatten_86 ?_
      refine gv_iload_n 89 S 1 1 dX10_ofBatten_89 rfl rfl ?_
      refine gv_iald 90 S h (hI_25 X) dX10_ofBatten_90 (fun h => ?_)
      exact gv_iretR 91 S h dX10_ofBatten_91
    rw [if_neg hq5] at h
    by_cases hq6 : v2 = 3
    · rw [if_pos hq6] at h
      refine gv_tabIn 14 S 92 dX10_ofBatten_14 (by rw [hq6]; decide) (by rw [hq6]; decide) (by rw [hq6] <;> rfl) (by decide) ?_
      refine gv_aload_n 92 S 0 0 dX10_ofBatten_92 rfl rfl ?_
      refine gv_get 93 S (hF_0_loft X) mf_X10_ofBatten_32 dX10_ofBatten_93 ?_
      refine gv_get 96 S (hF_20_now X) mf_X10_ofBatten_124 dX10_ofBatten_96 ?_
      refine gv_get 99 S (hF_23_height X) mf_X10_ofBatten_134 dX10_ofBatten_99 ?_
      refine gv_iload_n 102 S 1 1 dX10_ofBatten_102 rfl rfl ?_
      refine gv_iald 103 S h (hI_26 X) dX10_ofBatten_103 (fun h => ?_)
      exact gv_iretR 104 S h dX10_ofBatten_104
    rw [if_neg hq6] at h
    by_cases hq7 : v2 = 4
    · rw [if_pos hq7] at h
      refine gv_tabIn 14 S 105 dX10_ofBatten_14 (by rw [hq7]; decide) (by rw [hq7]; decide) (by rw [hq7] <;> rfl) (by decide) ?_
      refine gv_aload_n 105 S 0 0 dX10_ofBatten_105 rfl rfl ?_
      refine gv_get 106 S (hF_0_loft X) mf_X10_ofBatten_32 dX10_ofBatten_106 ?_
      refine gv_get 109 S (hF_20_drop X) mf_X10_ofBatten_137 dX10_ofBatten_109 ?_
      refine gv_iload_n 112 S 1 1 dX10_ofBatten_112 rfl rfl ?_
      refine gv_iald 113 S h (hI_22 X) dX10_ofBatten_113 (fun h => ?_)
      exact gv_iretR 114 S h dX10_ofBatten_114
    rw [if_neg hq7] at h
    by_cases hq10 : v2 = 5
    · rw [if_pos hq10] at h
      refine gv_tabIn 14 S 115 dX10_ofBatten_14 (by rw [hq10]; decide) (by rw [hq10]; decide) (by rw [hq10] <;> rfl) (by decide) ?_
      refine gv_aload_n 115 S 0 0 dX10_ofBatten_115 rfl rfl ?_
      refine gv_get 116 S (hF_0_loft X) mf_X10_ofBatten_32 dX10_ofBatten_116 ?_
      refine gv_iload_n 119 S 1 1 dX10_ofBatten_119 rfl rfl ?_
      obtain ⟨r8, hc9, h⟩ := br_some h
      refine gv_cVi 120 S (As := [.int v1]) (rest := []) (c_X1_pull l X M v1 r8 hc9) (hO_20 X) rfl (cwV 1 S.1.2.2.2.2 gX10_ofBatten_X1_pull rfl rfl rfl (by decide +kernel) ⟨Nat.le_of_ble_eq_true rfl, Nat.le_of_ble_eq_true rfl⟩) rfl rfl (Nat.le_of_ble_eq_true rfl) dX10_ofBatten_120 ?_
      exact gv_iretR 123 S h dX10_ofBatten_123
    rw [if_neg hq10] at h
    by_cases hq13 : v2 = 6
    · rw [if_pos hq13] at h
      refine gv_tabIn 14 S 124 dX10_ofBatten_14 (by rw [hq13]; decide) (by rw [hq13]; decide) (by rw [hq13] <;> rfl) (by decide) ?_
      refine gv_aload_n 124 S 0 0 dX10_ofBatten_124 rfl rfl ?_
      refine gv_get 125 S (hF_0_loft X) mf_X10_ofBatten_32 dX10_ofBatten_125 ?_
      refine gv_iload_n 128 S 1 1 dX10_ofBatten_128 rfl rfl ?_
      refine gv_aload_n 129 S 0 0 dX10_ofBatten_129 rfl rfl ?_
      refine gv_get 130 S (hF_0_loft X) mf_X10_ofBatten_32 dX10_ofBatten_130 ?_
      refine gv_get 133 S (hF_20_now X) mf_X10_ofBatten_124 dX10_ofBatten_133 ?_
      refine gv_get 136 S (hF_23_height X) mf_X10_ofBatten_134 dX10_ofBatten_136 ?_
      refine gv_iload_n 139 S 1 1 dX10_ofBatten_139 rfl rfl ?_
      refine gv_iald 140 S h (hI_26 X) dX10_ofBatten_140 (fun h => ?_)
      obtain ⟨r11, hc12, h⟩ := br_some h
      refine gv_cVi 141 S (As := [.int v1, .int (M 26 v1.toNatClampNeg)]) (rest := []) (c_X1_edge l X M v1 (M 26 v1.toNatClampNeg) r11 hc12) (hO_20 X) rfl (cwV 2 S.1.2.2.2.2 gX10_ofBatten_X1_edge rfl rfl rfl (by decide +kernel) ⟨Nat.le_of_ble_eq_true rfl, Nat.le_of_ble_eq_true rfl⟩) rfl rfl (Nat.le_of_ble_eq_true rfl) dX10_ofBatten_141 ?_
      exact gv_iretR 144 S h dX10_ofBatten_144
    rw [if_neg hq13] at h
    have hq3 : ¬ v2.toInt = 0 := lv_neT hq3 rfl
    have hq4 : ¬ v2.toInt = 1 := lv_neT hq4 rfl
    have hq5 : ¬ v2.toInt = 2 := lv_neT hq5 rfl
    have hq6 : ¬ v2.toInt = 3 := lv_neT hq6 rfl
    have hq7 : ¬ v2.toInt = 4 := lv_neT hq7 rfl
    have hq10 : ¬ v2.toInt = 5 := lv_neT hq10 rfl
    have hq13 : ¬ v2.toInt = 6 := lv_neT hq13 rfl
    refine gv_tabOut 14 S 145 dX10_ofBatten_14 (by omega) (by decide) ?_
    refine gv_bipush 145 S (-2 : Int32) dX10_ofBatten_145 (by decide) ?_
    exact gv_iretR 147 S h dX10_ofBatten_147
  · refine gv_iconst 11 S (-1 : Int32) dX10_ofBatten_11 (by decide) ?_
    exact gv_iretR 12 S h dX10_ofBatten_12
theorem mi_X10_seen_10 : ∀ w ∈ u_ws RX10 TX10 12, w ∈ wsX10_seen := by decide +kernel
theorem mf_X10_seen_32 : MF wsX10_seen RX10 32 9 1 := ⟨RX10, TX10, 12, rfl, by decide, mi_X10_seen_10, by decide +kernel⟩
theorem mi_X10_seen_1 : ∀ w ∈ u_ws RX1 TX1 4, w ∈ wsX10_seen := by decide +kernel
theorem mf_X10_seen_117 : MF wsX10_seen RX10 117 1 3 := ⟨RX1, TX1, 4, rfl, by decide, mi_X10_seen_1, by decide +kernel⟩
theorem mf_X10_seen_124 : MF wsX10_seen RX10 124 1 2 := ⟨RX1, TX1, 4, rfl, by decide, mi_X10_seen_1, by decide +kernel⟩
theorem mi_X10_seen_6 : ∀ w ∈ u_ws RX6 TX6 6, w ∈ wsX10_seen := by decide +kernel
theorem mf_X10_seen_134 : MF wsX10_seen RX10 134 6 2 := ⟨RX6, TX6, 6, rfl, by decide, mi_X10_seen_6, by decide +kernel⟩
abbrev rm_X10_seen : Room := { frames := 3, cells := 0, slots := 0, locals := 60 }
set_option maxHeartbeats 4000000 in
set_option maxRecDepth 100000 in
theorem c_X10_seen (l : Launch) (X : GE) (M : MM) (r : Int32) (h : f_X10_seen M = some r) : CTi l yX10_seen wsX10_seen rm_X10_seen X [.ref (X.2.2 0)] M r M := by
  refine ct_i (own := RX10) (by decide +kernel) rfl rfl (Nat.le_of_ble_eq_true rfl) (lv0 := [(0, .ref (X.2.2 0))]) rfl ?_
  intro p e s m args below meth c S
  unfold f_X10_seen at h
  refine gv_aload_n 0 S 0 0 dX10_seen_0 rfl rfl ?_
  refine gv_get 1 S (hF_0_loft X) mf_X10_seen_32 dX10_seen_1 ?_
  refine gv_get 4 S (hF_20_count X) mf_X10_seen_117 dX10_seen_4 ?_
  refine gv_if_ne 7 S 15 h dX10_seen_7 (by decide) (fun h => ?_) (fun h => ?_)
  · refine gv_aload_n 15 S 0 0 dX10_seen_15 rfl rfl ?_
    refine gv_get 16 S (hF_0_loft X) mf_X10_seen_32 dX10_seen_16 ?_
    refine gv_aload_n 19 S 0 0 dX10_seen_19 rfl rfl ?_
    refine gv_get 20 S (hF_0_loft X) mf_X10_seen_32 dX10_seen_20 ?_
    refine gv_get 23 S (hF_20_now X) mf_X10_seen_124 dX10_seen_23 ?_
    refine gv_get 26 S (hF_23_height X) mf_X10_seen_134 dX10_seen_26 ?_
    obtain ⟨r1, hc2, h⟩ := br_some h
    refine gv_cVi 29 S (As := [.ref (X.2.2 26)]) (rest := []) (c_X1_seenAt l X M 26 (hI_26 X) r1 hc2) (hO_20 X) rfl (cwV 1 S.1.2.2.2.2 gX10_seen_X1_seenAt rfl rfl rfl (by decide +kernel) ⟨Nat.le_of_ble_eq_true rfl, Nat.le_of_ble_eq_true rfl⟩) rfl rfl (Nat.le_of_ble_eq_true rfl) dX10_seen_29 ?_
    exact gv_iretR 32 S h dX10_seen_32
  · refine gv_bipush 10 S (-3 : Int32) dX10_seen_10 (by decide) ?_
    refine gv_goto 12 S 32 dX10_seen_12 (by decide) ?_
    exact gv_iretR 32 S h dX10_seen_32
theorem mi_X10_hides_10 : ∀ w ∈ u_ws RX10 TX10 12, w ∈ wsX10_hides := by decide +kernel
theorem mf_X10_hides_32 : MF wsX10_hides RX10 32 9 1 := ⟨RX10, TX10, 12, rfl, by decide, mi_X10_hides_10, by decide +kernel⟩
abbrev rm_X10_hides : Room := { frames := 3, cells := 0, slots := 0, locals := 58 }
set_option maxHeartbeats 4000000 in
set_option maxRecDepth 100000 in
theorem c_X10_hides (l : Launch) (X : GE) (M : MM) (v1 : Int32) (r : Int32) (h : f_X10_hides M v1 = some r) : CTi l yX10_hides wsX10_hides rm_X10_hides X [.ref (X.2.2 0), .int v1] M r M := by
  refine ct_i (own := RX10) (by decide +kernel) rfl rfl (Nat.le_of_ble_eq_true rfl) (lv0 := [(0, .ref (X.2.2 0)), (1, .int v1)]) rfl ?_
  intro p e s m args below meth c S
  unfold f_X10_hides at h
  refine gv_aload_n 0 S 0 0 dX10_hides_0 rfl rfl ?_
  refine gv_get 1 S (hF_0_loft X) mf_X10_hides_32 dX10_hides_1 ?_
  refine gv_iload_n 4 S 1 1 dX10_hides_4 rfl rfl ?_
  obtain ⟨r1, hc2, h⟩ := br_some h
  refine gv_cVi 5 S (As := [.int v1]) (rest := []) (c_X1_has l X M v1 r1 hc2) (hO_20 X) rfl (cwV 1 S.1.2.2.2.2 gX10_hides_X1_has rfl rfl rfl (by decide +kernel) ⟨Nat.le_of_ble_eq_true rfl, Nat.le_of_ble_eq_true rfl⟩) rfl rfl (Nat.le_of_ble_eq_true rfl) dX10_hides_5 ?_
  refine gv_if_eq 8 S 22 h dX10_hides_8 (by decide) (fun h => ?_) (fun h => ?_)
  · refine gv_iconst 22 S (-1 : Int32) dX10_hides_22 (by decide) ?_
    exact gv_iretR 23 S h dX10_hides_23
  · refine gv_aload_n 11 S 0 0 dX10_hides_11 rfl rfl ?_
    refine gv_get 12 S (hF_0_loft X) mf_X10_hides_32 dX10_hides_12 ?_
    refine gv_iload_n 15 S 1 1 dX10_hides_15 rfl rfl ?_
    obtain ⟨r3, hc4, h⟩ := br_some h
    refine gv_cVi 16 S (As := [.int v1]) (rest := []) (c_X1_hiderOf l X M v1 r3 hc4) (hO_20 X) rfl (cwV 1 S.1.2.2.2.2 gX10_hides_X1_hiderOf rfl rfl rfl (by decide +kernel) ⟨Nat.le_of_ble_eq_true rfl, Nat.le_of_ble_eq_true rfl⟩) rfl rfl (Nat.le_of_ble_eq_true rfl) dX10_hides_16 ?_
    refine gv_goto 19 S 23 dX10_hides_19 (by decide) ?_
    exact gv_iretR 23 S h dX10_hides_23
theorem mi_X10_hire_10 : ∀ w ∈ u_ws RX10 TX10 12, w ∈ wsX10_hire := by decide +kernel
theorem mf_X10_hire_32 : MF wsX10_hire RX10 32 9 1 := ⟨RX10, TX10, 12, rfl, by decide, mi_X10_hire_10, by decide +kernel⟩
theorem mi_X10_hire_1 : ∀ w ∈ u_ws RX1 TX1 4, w ∈ wsX10_hire := by decide +kernel
theorem mf_X10_hire_117 : MF wsX10_hire RX10 117 1 3 := ⟨RX1, TX1, 4, rfl, by decide, mi_X10_hire_1, by decide +kernel⟩
theorem mf_X10_hire_124 : MF wsX10_hire RX10 124 1 2 := ⟨RX1, TX1, 4, rfl, by decide, mi_X10_hire_1, by decide +kernel⟩
theorem mi_X10_hire_6 : ∀ w ∈ u_ws RX6 TX6 6, w ∈ wsX10_hire := by decide +kernel
theorem mf_X10_hire_158 : MF wsX10_hire RX10 158 6 4 := ⟨RX6, TX6, 6, rfl, by decide, mi_X10_hire_6, by decide +kernel⟩
theorem mp_X10_hire_158 : MP wsX10_hire RX10 158 6 4 .int := ⟨RX6, TX6, 6, tyX6, rfl, by decide, mi_X10_hire_6, by decide +kernel, tyX6_ok, nmX6, rfl, by decide +kernel⟩
abbrev rm_X10_hire : Room := { frames := 1, cells := 0, slots := 0, locals := 22 }
set_option maxHeartbeats 4000000 in
set_option maxRecDepth 100000 in
theorem c_X10_hire (l : Launch) (X : GE) (M : MM) (v1 : Int32) (r : Int32) (M' : MM) (h : f_X10_hire M v1 = some (r, M')) : CTi l yX10_hire wsX10_hire rm_X10_hire X [.ref (X.2.2 0), .int v1] M r M' := by
  refine ct_i (own := RX10) (by decide +kernel) rfl rfl (Nat.le_of_ble_eq_true rfl) (lv0 := [(0, .ref (X.2.2 0)), (1, .int v1)]) rfl ?_
  intro p e s m args below meth c S
  unfold f_X10_hire at h
  refine gv_iload_n 0 S 1 1 dX10_hire_0 rfl rfl ?_
  refine gv_iconst 1 S (1 : Int32) dX10_hire_1 (by decide) ?_
  refine gv_bipush 2 S (6 : Int32) dX10_hire_2 (by decide) ?_
  obtain ⟨r1, hc2, h⟩ := br_some h
  refine gv_cSi 4 S (As := [.int v1, .int (1 : Int32), .int (6 : Int32)]) (rest := []) (c_X10_within l X M v1 (1 : Int32) (6 : Int32) r1 hc2) (va_cwS 3 S.1.2.2.2.2 gX10_hire_X10_within rfl rfl rfl (by decide +kernel) ⟨Nat.le_of_ble_eq_true rfl, Nat.le_of_ble_eq_true rfl⟩) rfl rfl (Nat.le_of_ble_eq_true rfl) dX10_hire_4 ?_
  refine gv_if_ne 7 S 13 h dX10_hire_7 (by decide) (fun h => ?_) (fun h => ?_)
  · refine gv_aload_n 13 S 0 0 dX10_hire_13 rfl rfl ?_
    refine gv_get 14 S (hF_0_loft X) mf_X10_hire_32 dX10_hire_14 ?_
    refine gv_get 17 S (hF_20_count X) mf_X10_hire_117 dX10_hire_17 ?_
    refine gv_if_ne 20 S 26 h dX10_hire_20 (by decide) (fun h => ?_) (fun h => ?_)
    · refine gv_aload_n 26 S 0 0 dX10_hire_26 rfl rfl ?_
      refine gv_get 27 S (hF_0_loft X) mf_X10_hire_32 dX10_hire_27 ?_
      refine gv_get 30 S (hF_20_now X) mf_X10_hire_124 dX10_hire_30 ?_
      refine gv_get 33 S (hF_23_hands X) mf_X10_hire_158 dX10_hire_33 ?_
      refine gv_nmi h (fun x3 h => ?_)
      refine gv_istore_n 36 S 2 (lv' := [(2, .int x3), (0, .ref (X.2.2 0)), (1, .int v1)]) dX10_hire_36 rfl (Nat.le_of_ble_eq_true rfl) rfl ?_
      refine gv_aload_n 37 S 0 1 dX10_hire_37 rfl rfl ?_
      refine gv_get 38 S (hF_0_loft X) mf_X10_hire_32 dX10_hire_38 ?_
      refine gv_get 41 S (hF_20_now X) mf_X10_hire_124 dX10_hire_41 ?_
      refine gv_iload_n 44 S 1 2 dX10_hire_44 rfl rfl ?_
      refine gv_put 45 S h (hP_23_hands X) mp_X10_hire_158 rfl rfl dX10_hire_45 (fun M4 h => ?_)
      refine gv_iload_n 48 S 2 0 dX10_hire_48 rfl rfl ?_
      exact gv_iret 49 S h dX10_hire_49
    · refine gv_bipush 23 S (-3 : Int32) dX10_hire_23 (by decide) ?_
      exact gv_iret 25 S h dX10_hire_25
  · refine gv_bipush 10 S (-2 : Int32) dX10_hire_10 (by decide) ?_
    exact gv_iret 12 S h dX10_hire_12
theorem mi_X10_trim_10 : ∀ w ∈ u_ws RX10 TX10 12, w ∈ wsX10_trim := by decide +kernel
theorem mf_X10_trim_32 : MF wsX10_trim RX10 32 9 1 := ⟨RX10, TX10, 12, rfl, by decide, mi_X10_trim_10, by decide +kernel⟩
theorem mi_X10_trim_1 : ∀ w ∈ u_ws RX1 TX1 4, w ∈ wsX10_trim := by decide +kernel
theorem mf_X10_trim_117 : MF wsX10_trim RX10 117 1 3 := ⟨RX1, TX1, 4, rfl, by decide, mi_X10_trim_1, by decide +kernel⟩
theorem mf_X10_trim_124 : MF wsX10_trim RX10 124 1 2 := ⟨RX1, TX1, 4, rfl, by decide, mi_X10_trim_1, by decide +kernel⟩
theorem mi_X10_trim_6 : ∀ w ∈ u_ws RX6 TX6 6, w ∈ wsX10_trim := by decide +kernel
theorem mf_X10_trim_161 : MF wsX10_trim RX10 161 6 5 := ⟨RX6, TX6, 6, rfl, by decide, mi_X10_trim_6, by decide +kernel⟩
theorem mp_X10_trim_161 : MP wsX10_trim RX10 161 6 5 .int := ⟨RX6, TX6, 6, tyX6, rfl, by decide, mi_X10_trim_6, by decide +kernel, tyX6_ok, nmX6, rfl, by decide +kernel⟩
abbrev rm_X10_trim : Room := { frames := 1, cells := 0, slots := 0, locals := 22 }
set_option maxHeartbeats 4000000 in
set_option maxRecDepth 100000 in
theorem c_X10_trim (l : Launch) (X : GE) (M : MM) (v1 : Int32) (r : Int32) (M' : MM) (h : f_X10_trim M v1 = some (r, M')) : CTi l yX10_trim wsX10_trim rm_X10_trim X [.ref (X.2.2 0), .int v1] M r M' := by
  refine ct_i (own := RX10) (by decide +kernel) rfl rfl (Nat.le_of_ble_eq_true rfl) (lv0 := [(0, .ref (X.2.2 0)), (1, .int v1)]) rfl ?_
  intro p e s m args below meth c S
  unfold f_X10_trim at h
  refine gv_iload_n 0 S 1 1 dX10_trim_0 rfl rfl ?_
  refine gv_iconst 1 S (1 : Int32) dX10_trim_1 (by decide) ?_
  refine gv_bipush 2 S (9 : Int32) dX10_trim_2 (by decide) ?_
  obtain ⟨r1, hc2, h⟩ := br_some h
  refine gv_cSi 4 S (As := [.int v1, .int (1 : Int32), .int (9 : Int32)]) (rest := []) (c_X10_within l X M v1 (1 : Int32) (9 : Int32) r1 hc2) (va_cwS 3 S.1.2.2.2.2 gX10_trim_X10_within rfl rfl rfl (by decide +kernel) ⟨Nat.le_of_ble_eq_true rfl, Nat.le_of_ble_eq_true rfl⟩) rfl rfl (Nat.le_of_ble_eq_true rfl) dX10_trim_4 ?_
  refine gv_if_ne 7 S 13 h dX10_trim_7 (by decide) (fun h => ?_) (fun h => ?_)
  · refine gv_aload_n 13 S 0 0 dX10_trim_13 rfl rfl ?_
    refine gv_get 14 S (hF_0_loft X) mf_X10_trim_32 dX10_trim_14 ?_
    refine gv_get 17 S (hF_20_count X) mf_X10_trim_117 dX10_trim_17 ?_
    refine gv_if_ne 20 S 26 h dX10_trim_20 (by decide) (fun h => ?_) (fun h => ?_)
    · refine gv_aload_n 26 S 0 0 dX10_trim_26 rfl rfl ?_
      refine gv_get 27 S (hF_0_loft X) mf_X10_trim_32 dX10_trim_27 ?_
      refine gv_get 30 S (hF_20_now X) mf_X10_trim_124 dX10_trim_30 ?_
      refine gv_get 33 S (hF_23_trim X) mf_X10_trim_161 dX10_trim_33 ?_
      refine gv_nmi h (fun x3 h => ?_)
      refine gv_istore_n 36 S 2 (lv' := [(2, .int x3), (0, .ref (X.2.2 0)), (1, .int v1)]) dX10_trim_36 rfl (Nat.le_of_ble_eq_true rfl) rfl ?_
      refine gv_aload_n 37 S 0 1 dX10_trim_37 rfl rfl ?_
      refine gv_get 38 S (hF_0_loft X) mf_X10_trim_32 dX10_trim_38 ?_
      refine gv_get 41 S (hF_20_now X) mf_X10_trim_124 dX10_trim_41 ?_
      refine gv_iload_n 44 S 1 2 dX10_trim_44 rfl rfl ?_
      refine gv_put 45 S h (hP_23_trim X) mp_X10_trim_161 rfl rfl dX10_trim_45 (fun M4 h => ?_)
      refine gv_iload_n 48 S 2 0 dX10_trim_48 rfl rfl ?_
      exact gv_iret 49 S h dX10_trim_49
    · refine gv_bipush 23 S (-3 : Int32) dX10_trim_23 (by decide) ?_
      exact gv_iret 25 S h dX10_trim_25
  · refine gv_bipush 10 S (-2 : Int32) dX10_trim_10 (by decide) ?_
    exact gv_iret 12 S h dX10_trim_12
abbrev rm_X10_isHeight : Room := { frames := 1, cells := 0, slots := 0, locals := 22 }
set_option maxHeartbeats 4000000 in
set_option maxRecDepth 100000 in
theorem c_X10_isHeight (l : Launch) (X : GE) (M : MM) (v0 : Int32) (r : Int32) (h : f_X10_isHeight M v0 = some r) : CTi l yX10_isHeight wsX10_isHeight rm_X10_isHeight X [.int v0] M r M := by
  refine ct_i (own := RX10) (by decide +kernel) rfl rfl (Nat.le_of_ble_eq_true rfl) (lv0 := [(0, .int v0)]) rfl ?_
  intro p e s m args below meth c S
  unfold f_X10_isHeight at h
  refine gv_iload_n 0 S 0 0 dX10_isHeight_0 rfl rfl ?_
  refine gv_iconst 1 S (0 : Int32) dX10_isHeight_1 (by decide) ?_
  refine gv_bipush 2 S (9 : Int32) dX10_isHeight_2 (by decide) ?_
  obtain ⟨r1, hc2, h⟩ := br_some h
  refine gv_cSi 4 S (As := [.int v0, .int (0 : Int32), .int (9 : Int32)]) (rest := []) (c_X10_within l X M v0 (0 : Int32) (9 : Int32) r1 hc2) (va_cwS 3 S.1.2.2.2.2 gX10_isHeight_X10_within rfl rfl rfl (by decide +kernel) ⟨Nat.le_of_ble_eq_true rfl, Nat.le_of_ble_eq_true rfl⟩) rfl rfl (Nat.le_of_ble_eq_true rfl) dX10_isHeight_4 ?_
  exact gv_zretRG 7 S h dX10_isHeight_7
theorem mi_X10_doMoves_10 : ∀ w ∈ u_ws RX10 TX10 12, w ∈ wsX10_doMoves := by decide +kernel
theorem mf_X10_doMoves_60 : MF wsX10_doMoves RX10 60 9 7 := ⟨RX10, TX10, 12, rfl, by decide, mi_X10_doMoves_10, by decide +kernel⟩
theorem mi_X10_doMoves_0 : ∀ w ∈ u_ws RX0 TX0 5, w ∈ wsX10_doMoves := by decide +kernel
theorem mf_X10_doMoves_216 : MF wsX10_doMoves RX10 216 0 1 := ⟨RX0, TX0, 5, rfl, by decide, mi_X10_doMoves_0, by decide +kernel⟩
theorem mf_X10_doMoves_32 : MF wsX10_doMoves RX10 32 9 1 := ⟨RX10, TX10, 12, rfl, by decide, mi_X10_doMoves_10, by decide +kernel⟩
theorem mi_X10_doMoves_1 : ∀ w ∈ u_ws RX1 TX1 4, w ∈ wsX10_doMoves := by decide +kernel
theorem mf_X10_doMoves_124 : MF wsX10_doMoves RX10 124 1 2 := ⟨RX1, TX1, 4, rfl, by decide, mi_X10_doMoves_1, by decide +kernel⟩
theorem mi_X10_doMoves_6 : ∀ w ∈ u_ws RX6 TX6 6, w ∈ wsX10_doMoves := by decide +kernel
theorem mf_X10_doMoves_134 : MF wsX10_doMoves RX10 134 6 2 := ⟨RX6, TX6, 6, rfl, by decide, mi_X10_doMoves_6, by decide +kernel⟩
theorem mf_X10_doMoves_53 : MF wsX10_doMoves RX10 53 9 6 := ⟨RX10, TX10, 12, rfl, by decide, mi_X10_doMoves_10, by decide +kernel⟩
theorem mi_X10_doMoves_2 : ∀ w ∈ u_ws RX2 TX2 3, w ∈ wsX10_doMoves := by decide +kernel
theorem mf_X10_doMoves_167 : MF wsX10_doMoves RX10 167 2 2 := ⟨RX2, TX2, 3, rfl, by decide, mi_X10_doMoves_2, by decide +kernel⟩
theorem mf_X10_doMoves_158 : MF wsX10_doMoves RX10 158 6 4 := ⟨RX6, TX6, 6, rfl, by decide, mi_X10_doMoves_6, by decide +kernel⟩
theorem mf_X10_doMoves_39 : MF wsX10_doMoves RX10 39 9 2 := ⟨RX10, TX10, 12, rfl, by decide, mi_X10_doMoves_10, by decide +kernel⟩
theorem mf_X10_doMoves_308 : MF wsX10_doMoves RX10 308 2 0 := ⟨RX2, TX2, 3, rfl, by decide, mi_X10_doMoves_2, by decide +kernel⟩
theorem mf_X10_doMoves_311 : MF wsX10_doMoves RX10 311 2 1 := ⟨RX2, TX2, 3, rfl, by decide, mi_X10_doMoves_2, by decide +kernel⟩
abbrev rm_X10_doMoves : Room := { frames := 4, cells := 0, slots := 0, locals := 82 }
set_option maxHeartbeats 4000000 in
set_option maxRecDepth 100000 in
theorem t_X10_doMoves_28 {p : Program} {l : Launch} {e : Env} {s : State} {m : MethodId} {args : Array Value} {below : List Frame} {meth : Method} {c : Code} {X : GE} {r : Int32} {M' : MM} (S : CX p s m args meth c cX10_doMoves 3 wsX10_doMoves RX10 (some .int) X) : ∀ (n : Nat) (M : MM) (v2 : Int32) (h : g_X10_doMoves_28 n M v2 = some (r, M')), V p l e (headSpec wsX10_doMoves rm_X10_doMoves).room s m args below meth c 3 X (MQ below (gQi X r M') args s 0 0 (gA X)) M 28 [(0, .ref (X.2.2 0)), (1, .ref (X.2.2 70)), (2, .int v2)] [] := by
  intro n
  induction n with
  | zero =>
    intro M v2 h
    rw [g_X10_doMoves_28] at h
    cases h
  | succ n ih =>
    intro M v2 h
    rw [g_X10_doMoves_28] at h
    refine gv_iload_n 28 S 2 2 dX10_doMoves_28 rfl rfl ?_
    refine gv_aload_n 29 S 0 0 dX10_doMoves_29 rfl rfl ?_
    refine gv_get 30 S (hF_0_moves X) mf_X10_doMoves_53 dX10_doMoves_30 ?_
    refine gv_get 33 S (hF_65_count X) mf_X10_doMoves_167 dX10_doMoves_33 ?_
    refine gv_icmp_ge 36 S 65 h dX10_doMoves_36 (by decide) (fun h => ?_) (fun h => ?_)
    · refine gv_aload_n 65 S 0 0 dX10_doMoves_65 rfl rfl ?_
      refine gv_get 66 S (hF_0_loft X) mf_X10_doMoves_32 dX10_doMoves_66 ?_
      refine gv_aload_n 69 S 0 0 dX10_doMoves_69 rfl rfl ?_
      refine gv_get 70 S (hF_0_loft X) mf_X10_doMoves_32 dX10_doMoves_70 ?_
      refine gv_get 73 S (hF_20_now X) mf_X10_doMoves_124 dX10_doMoves_73 ?_
      refine gv_get 76 S (hF_23_height X) mf_X10_doMoves_134 dX10_doMoves_76 ?_
      refine gv_aload_n 79 S 1 1 dX10_doMoves_79 rfl rfl ?_
      refine gv_aload_n 80 S 0 0 dX10_doMoves_80 rfl rfl ?_
      refine gv_get 81 S (hF_0_loft X) mf_X10_doMoves_32 dX10_doMoves_81 ?_
      refine gv_get 84 S (hF_20_now X) mf_X10_doMoves_124 dX10_doMoves_84 ?_
      refine gv_get 87 S (hF_23_hands X) mf_X10_doMoves_158 dX10_doMoves_87 ?_
      obtain ⟨r2, hc3, h⟩ := br_some h
      refine gv_cVi 90 S (As := [.ref (X.2.2 26), .ref (X.2.2 70), .int (M 23 4)]) (rest := []) (c_X1_canBe l X M 26 70 (M 23 4) (hI_26 X) (hI_70 X) r2 hc3) (hO_20 X) rfl (cwV 3 S.1.2.2.2.2 gX10_doMoves_X1_canBe rfl rfl rfl (by decide +kernel) ⟨Nat.le_of_ble_eq_true rfl, Nat.le_of_ble_eq_true rfl⟩) rfl rfl (Nat.le_of_ble_eq_true rfl) dX10_doMoves_90 ?_
      refine gv_if_ne 93 S 99 h dX10_doMoves_93 (by decide) (fun h => ?_) (fun h => ?_)
      · refine gv_aload_n 99 S 0 0 dX10_doMoves_99 rfl rfl ?_
        refine gv_get 100 S (hF_0_loft X) mf_X10_doMoves_32 dX10_doMoves_100 ?_
        refine gv_aload_n 103 S 0 0 dX10_doMoves_103 rfl rfl ?_
        refine gv_get 104 S (hF_0_loft X) mf_X10_doMoves_32 dX10_doMoves_104 ?_
        refine gv_get 107 S (hF_20_now X) mf_X10_doMoves_124 dX10_doMoves_107 ?_
        refine gv_get 110 S (hF_23_height X) mf_X10_doMoves_134 dX10_doMoves_110 ?_
        refine gv_aload_n 113 S 1 1 dX10_doMoves_113 rfl rfl ?_
        obtain ⟨r4, hc5, h⟩ := br_some h
        refine gv_cVi 114 S (As := [.ref (X.2.2 26), .ref (X.2.2 70)]) (rest := []) (c_X1_beats l X M 26 70 (hI_26 X) (hI_70 X) r4 hc5) (hO_20 X) rfl (cwV 2 S.1.2.2.2.2 gX10_doMoves_X1_beats rfl rfl rfl (by decide +kernel) ⟨Nat.le_of_ble_eq_true rfl, Nat.le_of_ble_eq_true rfl⟩) rfl rfl (Nat.le_of_ble_eq_true rfl) dX10_doMoves_114 ?_
        refine gv_istore_n 117 S 2 (lv' := [(2, .int r4), (0, .ref (X.2.2 0)), (1, .ref (X.2.2 70))]) dX10_doMoves_117 rfl (Nat.le_of_ble_eq_true rfl) rfl ?_
        refine gv_aload_n 118 S 0 1 dX10_doMoves_118 rfl rfl ?_
        refine gv_get 119 S (hF_0_past X) mf_X10_doMoves_39 dX10_doMoves_119 ?_
        refine gv_aload_n 122 S 0 1 dX10_doMoves_122 rfl rfl ?_
        refine gv_get 123 S (hF_0_loft X) mf_X10_doMoves_32 dX10_doMoves_123 ?_
        refine gv_get 126 S (hF_20_now X) mf_X10_doMoves_124 dX10_doMoves_126 ?_
        obtain ⟨M7, hc8, h⟩ := br_some h
        refine gv_cVv 129 S (As := [.ref (X.2.2 23)]) (rest := []) (c_X3_remember l X M M7 hc8) (hO_27 X) rfl (cwV 1 S.1.2.2.2.2 gX10_doMoves_X3_remember rfl rfl rfl (by decide +kernel) ⟨Nat.le_of_ble_eq_true rfl, Nat.le_of_ble_eq_true rfl⟩) rfl rfl (Nat.le_of_ble_eq_true rfl) dX10_doMoves_129 ?_
        refine gv_aload_n 132 S 1 2 dX10_doMoves_132 rfl rfl ?_
        refine gv_iconst 133 S (0 : Int32) dX10_doMoves_133 (by decide) ?_
        refine gv_aload_n 134 S 0 1 dX10_doMoves_134 rfl rfl ?_
        refine gv_get 135 S (hF_0_loft X) mf_X10_doMoves_32 dX10_doMoves_135 ?_
        refine gv_get 138 S (hF_20_now X) mf_X10_doMoves_124 dX10_doMoves_138 ?_
        refine gv_get 141 S (hF_23_height X) mf_X10_doMoves_134 dX10_doMoves_141 ?_
        refine gv_iconst 144 S (0 : Int32) dX10_doMoves_144 (by decide) ?_
        refine gv_bipush 145 S (8 : Int32) dX10_doMoves_145 (by decide) ?_
        refine gv_copy 147 S h (hI_70 X) (hI_26 X) (by decide +kernel) (by decide +kernel) (by decide +kernel) (by decide +kernel) (Nat.le_of_ble_eq_true rfl) (Nat.le_of_ble_eq_true rfl) dX10_doMoves_147 (fun M9 h => ?_)
        refine gv_iload_n 150 S 2 0 dX10_doMoves_150 rfl rfl ?_
        exact gv_iret 151 S h dX10_doMoves_151
      · refine gv_bipush 96 S (-3 : Int32) dX10_doMoves_96 (by decide) ?_
        exact gv_iret 98 S h dX10_doMoves_98
    · refine gv_aload_n 39 S 1 1 dX10_doMoves_39 rfl rfl ?_
      refine gv_aload_n 40 S 0 0 dX10_doMoves_40 rfl rfl ?_
      refine gv_get 41 S (hF_0_moves X) mf_X10_doMoves_53 dX10_doMoves_41 ?_
      refine gv_get 44 S (hF_65_batten X) mf_X10_doMoves_308 dX10_doMoves_44 ?_
      refine gv_iload_n 47 S 2 2 dX10_doMoves_47 rfl rfl ?_
      refine gv_iald 48 S h (hI_66 X) dX10_doMoves_48 (fun h => ?_)
      refine gv_aload_n 49 S 0 0 dX10_doMoves_49 rfl rfl ?_
      refine gv_get 50 S (hF_0_moves X) mf_X10_doMoves_53 dX10_doMoves_50 ?_
      refine gv_get 53 S (hF_65_height X) mf_X10_doMoves_311 dX10_doMoves_53 ?_
      refine gv_iload_n 56 S 2 2 dX10_doMoves_56 rfl rfl ?_
      refine gv_iald 57 S h (hI_67 X) dX10_doMoves_57 (fun h => ?_)
      refine gv_iast 58 S h (hI_70 X) dX10_doMoves_58 (fun M10 h => ?_)
      refine gv_iinc 59 S 2 (v2 + (1 : Int32)) (lv' := [(2, .int (v2 + (1 : Int32))), (0, .ref (X.2.2 0)), (1, .ref (X.2.2 70))]) dX10_doMoves_59 rfl rfl (Nat.le_of_ble_eq_true rfl) rfl ?_
      refine gv_goto 62 S 28 dX10_doMoves_62 (by decide) ?_
      exact gv_sub [1, 2, 0] rfl (ih M10 (v2 + (1 : Int32)) h)
set_option maxHeartbeats 4000000 in
set_option maxRecDepth 100000 in
theorem c_X10_doMoves (l : Launch) (X : GE) (M : MM) (r : Int32) (M' : MM) (h : f_X10_doMoves M = some (r, M')) : CTi l yX10_doMoves wsX10_doMoves rm_X10_doMoves X [.ref (X.2.2 0)] M r M' := by
  refine ct_i (own := RX10) (by decide +kernel) rfl rfl (Nat.le_of_ble_eq_true rfl) (lv0 := [(0, .ref (X.2.2 0))]) rfl ?_
  intro p e s m args below meth c S
  unfold f_X10_doMoves at h
  refine gv_aload_n 0 S 0 0 dX10_doMoves_0 rfl rfl ?_
  refine gv_get 1 S (hF_0_told X) mf_X10_doMoves_60 dX10_doMoves_1 ?_
  refine gv_get 4 S (hF_68_after X) mf_X10_doMoves_216 dX10_doMoves_4 ?_
  refine gv_astore_n 7 S 1 (lv' := [(1, .ref (X.2.2 70)), (0, .ref (X.2.2 0))]) dX10_doMoves_7 rfl (Nat.le_of_ble_eq_true rfl) rfl ?_
  refine gv_aload_n 8 S 0 1 dX10_doMoves_8 rfl rfl ?_
  refine gv_get 9 S (hF_0_loft X) mf_X10_doMoves_32 dX10_doMoves_9 ?_
  refine gv_get 12 S (hF_20_now X) mf_X10_doMoves_124 dX10_doMoves_12 ?_
  refine gv_get 15 S (hF_23_height X) mf_X10_doMoves_134 dX10_doMoves_15 ?_
  refine gv_iconst 18 S (0 : Int32) dX10_doMoves_18 (by decide) ?_
  refine gv_aload_n 19 S 1 0 dX10_doMoves_19 rfl rfl ?_
  refine gv_iconst 20 S (0 : Int32) dX10_doMoves_20 (by decide) ?_
  refine gv_bipush 21 S (8 : Int32) dX10_doMoves_21 (by decide) ?_
  refine gv_copy 23 S h (hI_26 X) (hI_70 X) (by decide +kernel) (by decide +kernel) (by decide +kernel) (by decide +kernel) (Nat.le_of_ble_eq_true rfl) (Nat.le_of_ble_eq_true rfl) dX10_doMoves_23 (fun M1 h => ?_)
  refine gv_iconst 26 S (0 : Int32) dX10_doMoves_26 (by decide) ?_
  refine gv_istore_n 27 S 2 (lv' := [(2, .int (0 : Int32)), (1, .ref (X.2.2 70)), (0, .ref (X.2.2 0))]) dX10_doMoves_27 rfl (Nat.le_of_ble_eq_true rfl) rfl ?_
  exact gv_sub [2, 1, 0] rfl (t_X10_doMoves_28 S FU M1 (0 : Int32) h)
theorem mi_X10_fly_10 : ∀ w ∈ u_ws RX10 TX10 12, w ∈ wsX10_fly := by decide +kernel
theorem mf_X10_fly_32 : MF wsX10_fly RX10 32 9 1 := ⟨RX10, TX10, 12, rfl, by decide, mi_X10_fly_10, by decide +kernel⟩
theorem mf_X10_fly_53 : MF wsX10_fly RX10 53 9 6 := ⟨RX10, TX10, 12, rfl, by decide, mi_X10_fly_10, by decide +kernel⟩
theorem mi_X10_fly_2 : ∀ w ∈ u_ws RX2 TX2 3, w ∈ wsX10_fly := by decide +kernel
theorem mp_X10_fly_167 : MP wsX10_fly RX10 167 2 2 .int := ⟨RX2, TX2, 3, tyX2, rfl, by decide, mi_X10_fly_2, by decide +kernel, tyX2_ok, nmX2, rfl, by decide +kernel⟩
abbrev rm_X10_fly : Room := { frames := 5, cells := 0, slots := 0, locals := 104 }
set_option maxHeartbeats 4000000 in
set_option maxRecDepth 100000 in
theorem c_X10_fly (l : Launch) (X : GE) (M : MM) (v1 : Int32) (v2 : Int32) (r : Int32) (M' : MM) (h : f_X10_fly M v1 v2 = some (r, M')) : CTi l yX10_fly wsX10_fly rm_X10_fly X [.ref (X.2.2 0), .int v1, .int v2] M r M' := by
  refine ct_i (own := RX10) (by decide +kernel) rfl rfl (Nat.le_of_ble_eq_true rfl) (lv0 := [(0, .ref (X.2.2 0)), (1, .int v1), (2, .int v2)]) rfl ?_
  intro p e s m args below meth c S
  unfold f_X10_fly at h
  refine gv_aload_n 0 S 0 0 dX10_fly_0 rfl rfl ?_
  refine gv_get 1 S (hF_0_loft X) mf_X10_fly_32 dX10_fly_1 ?_
  refine gv_iload_n 4 S 1 1 dX10_fly_4 rfl rfl ?_
  obtain ⟨r1, hc2, h⟩ := br_some h
  refine gv_cVi 5 S (As := [.int v1]) (rest := []) (c_X1_has l X M v1 r1 hc2) (hO_20 X) rfl (cwV 1 S.1.2.2.2.2 gX10_fly_X1_has rfl rfl rfl (by decide +kernel) ⟨Nat.le_of_ble_eq_true rfl, Nat.le_of_ble_eq_true rfl⟩) rfl rfl (Nat.le_of_ble_eq_true rfl) dX10_fly_5 ?_
  refine gv_if_ne 8 S 13 h dX10_fly_8 (by decide) (fun h => ?_) (fun h => ?_)
  · refine gv_iload_n 13 S 2 2 dX10_fly_13 rfl rfl ?_
    obtain ⟨r3, hc4, h⟩ := br_some h
    refine gv_cSi 14 S (As := [.int v2]) (rest := []) (c_X10_isHeight l X M v2 r3 hc4) (va_cwS 1 S.1.2.2.2.2 gX10_fly_X10_isHeight rfl rfl rfl (by decide +kernel) ⟨Nat.le_of_ble_eq_true rfl, Nat.le_of_ble_eq_true rfl⟩) rfl rfl (Nat.le_of_ble_eq_true rfl) dX10_fly_14 ?_
    refine gv_if_ne 17 S 23 h dX10_fly_17 (by decide) (fun h => ?_) (fun h => ?_)
    · refine gv_aload_n 23 S 0 0 dX10_fly_23 rfl rfl ?_
      refine gv_get 24 S (hF_0_moves X) mf_X10_fly_53 dX10_fly_24 ?_
      refine gv_iconst 27 S (0 : Int32) dX10_fly_27 (by decide) ?_
      refine gv_put 28 S h (hP_65_count X) mp_X10_fly_167 rfl rfl dX10_fly_28 (fun M5 h => ?_)
      refine gv_aload_n 31 S 0 0 dX10_fly_31 rfl rfl ?_
      refine gv_get 32 S (hF_0_moves X) mf_X10_fly_53 dX10_fly_32 ?_
      refine gv_iload_n 35 S 1 1 dX10_fly_35 rfl rfl ?_
      refine gv_iload_n 36 S 2 2 dX10_fly_36 rfl rfl ?_
      obtain ⟨M7, hc8, h⟩ := br_some h
      refine gv_cVv 37 S (As := [.int v1, .int v2]) (rest := []) (c_X2_add l X M5 v1 v2 M7 hc8) (hO_65 X) rfl (cwV 2 S.1.2.2.2.2 gX10_fly_X2_add rfl rfl rfl (by decide +kernel) ⟨Nat.le_of_ble_eq_true rfl, Nat.le_of_ble_eq_true rfl⟩) rfl rfl (Nat.le_of_ble_eq_true rfl) dX10_fly_37 ?_
      refine gv_aload_n 40 S 0 0 dX10_fly_40 rfl rfl ?_
      obtain ⟨r9, M10, hc11, h⟩ := bi_some h
      refine gv_cVi 41 S (As := []) (rest := []) (c_X10_doMoves l X M7 r9 M10 hc11) (hO_0 X) rfl (cwV 0 S.1.2.2.2.2 gX10_fly_X10_doMoves rfl rfl rfl (by decide +kernel) ⟨Nat.le_of_ble_eq_true rfl, Nat.le_of_ble_eq_true rfl⟩) rfl rfl (Nat.le_of_ble_eq_true rfl) dX10_fly_41 ?_
      exact gv_iret 44 S h dX10_fly_44
    · refine gv_bipush 20 S (-2 : Int32) dX10_fly_20 (by decide) ?_
      exact gv_iret 22 S h dX10_fly_22
  · refine gv_iconst 11 S (-1 : Int32) dX10_fly_11 (by decide) ?_
    exact gv_iret 12 S h dX10_fly_12
