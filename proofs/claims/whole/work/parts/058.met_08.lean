theorem mi_X11_findSplit_11 : ∀ w ∈ u_ws RX11 TX11 39, w ∈ wsX11_findSplit := by decide +kernel
theorem mf_X11_findSplit_62 : MF wsX11_findSplit RX11 62 10 33 := ⟨RX11, TX11, 39, rfl, by decide, mi_X11_findSplit_11, by decide +kernel⟩
theorem mf_X11_findSplit_65 : MF wsX11_findSplit RX11 65 10 34 := ⟨RX11, TX11, 39, rfl, by decide, mi_X11_findSplit_11, by decide +kernel⟩
abbrev rm_X11_findSplit : Room := { frames := 3, cells := 0, slots := 0, locals := 70 }
set_option maxHeartbeats 4000000 in
set_option maxRecDepth 100000 in
theorem t_X11_findSplit_91 {p : Program} {l : Launch} {e : Env} {s : State} {m : MethodId} {args : Array Value} {below : List Frame} {meth : Method} {c : Code} {X : GE} {r : Int32} {M' : MM} (S : CX p s m args meth c cX11_findSplit 8 wsX11_findSplit RX11 (some .int) X) : ∀ (n : Nat) (M : MM) (v2 : Int32) (v3 : Int32) (v7 : Int32) (h : g_X11_findSplit_91 n M v2 v3 v7 = some (r, M')), V p l e (headSpec wsX11_findSplit rm_X11_findSplit).room s m args below meth c 8 X (MQ below (gQi X r M') args s 0 0 (gA X)) M 91 [(0, .ref (X.2.2 83)), (2, .int v2), (3, .int v3), (7, .int v7)] [] := by
  intro n
  induction n with
  | zero =>
    intro M v2 v3 v7 h
    rw [g_X11_findSplit_91] at h
    cases h
  | succ n ih =>
    intro M v2 v3 v7 h
    rw [g_X11_findSplit_91] at h
    refine gv_iload 91 S 3 dX11_findSplit_91 rfl ?_
    refine gv_iload_n 93 S 2 1 dX11_findSplit_93 rfl rfl ?_
    refine gv_icmp_ge 94 S 117 h dX11_findSplit_94 (by decide) (fun h => ?_) (fun h => ?_)
    · refine gv_iload_n 117 S 3 2 dX11_findSplit_117 rfl rfl ?_
      exact gv_iret 118 S h dX11_findSplit_118
    · refine gv_aload_n 97 S 0 0 dX11_findSplit_97 rfl rfl ?_
      refine gv_get 98 S (hF_83_splitted X) mf_X11_findSplit_65 dX11_findSplit_98 ?_
      refine gv_iload 101 S 3 dX11_findSplit_101 rfl ?_
      refine gv_aload_n 103 S 0 0 dX11_findSplit_103 rfl rfl ?_
      refine gv_get 104 S (hF_83_cueOf X) mf_X11_findSplit_62 dX11_findSplit_104 ?_
      refine gv_iload 107 S 3 dX11_findSplit_107 rfl ?_
      refine gv_iald 109 S h (hI_101 X) dX11_findSplit_109 (fun h => ?_)
      refine gv_iast 110 S h (hI_102 X) dX11_findSplit_110 (fun M8 h => ?_)
      refine gv_iinc 111 S 3 (v7 + (1 : Int32)) (lv' := [(7, .int (v7 + (1 : Int32))), (0, .ref (X.2.2 83)), (2, .int v2), (3, .int v3)]) dX11_findSplit_111 rfl rfl (Nat.le_of_ble_eq_true rfl) rfl ?_
      refine gv_goto 114 S 91 dX11_findSplit_114 (by decide) ?_
      exact gv_sub [1, 2, 3, 0] rfl (ih M8 v2 v3 (v7 + (1 : Int32)) h)
set_option maxHeartbeats 4000000 in
set_option maxRecDepth 100000 in
theorem t_X11_findSplit_50 {p : Program} {l : Launch} {e : Env} {s : State} {m : MethodId} {args : Array Value} {below : List Frame} {meth : Method} {c : Code} {X : GE} {r : Int32} {M' : MM} (S : CX p s m args meth c cX11_findSplit 8 wsX11_findSplit RX11 (some .int) X) (rec2 : MM → Int32 → Int32 → Int32 → Option (Int32 × MM)) (hrec2 : ∀ (M : MM) (v1 : Int32) (v2 : Int32) (v3 : Int32), rec2 M v1 v2 v3 = some (r, M') → V p l e (headSpec wsX11_findSplit rm_X11_findSplit).room s m args below meth c 8 X (MQ below (gQi X r M') args s 0 0 (gA X)) M 2 [(0, .ref (X.2.2 83)), (1, .int v1), (2, .int v2), (3, .int v3)] []) (rec34 : MM → Int32 → Int32 → Int32 → Int32 → Int32 → Option (Int32 × MM)) (hrec34 : ∀ (M : MM) (v1 : Int32) (v2 : Int32) (v3 : Int32) (v4 : Int32) (v5 : Int32), rec34 M v1 v2 v3 v4 v5 = some (r, M') → V p l e (headSpec wsX11_findSplit rm_X11_findSplit).room s m args below meth c 8 X (MQ below (gQi X r M') args s 0 0 (gA X)) M 34 [(0, .ref (X.2.2 83)), (1, .int v1), (2, .int v2), (3, .int v3), (4, .int v4), (5, .int v5)] []) : ∀ (n : Nat) (M : MM) (v1 : Int32) (v2 : Int32) (v3 : Int32) (v4 : Int32) (v5 : Int32) (v6 : Int32) (v7 : Int32) (h : g_X11_findSplit_50 rec2 rec34 n M v1 v2 v3 v4 v5 v6 v7 = some (r, M')), V p l e (headSpec wsX11_findSplit rm_X11_findSplit).room s m args below meth c 8 X (MQ below (gQi X r M') args s 0 0 (gA X)) M 50 [(0, .ref (X.2.2 83)), (1, .int v1), (2, .int v2), (3, .int v3), (4, .int v4), (5, .int v5), (6, .int v6), (7, .int v7)] [] := by
  intro n
  induction n with
  | zero =>
    intro M v1 v2 v3 v4 v5 v6 v7 h
    rw [g_X11_findSplit_50] at h
    cases h
  | succ n ih =>
    intro M v1 v2 v3 v4 v5 v6 v7 h
    rw [g_X11_findSplit_50] at h
    refine gv_iload 50 S 7 dX11_findSplit_50 rfl ?_
    refine gv_if_lt 52 S 78 h dX11_findSplit_52 (by decide) (fun h => ?_) (fun h => ?_)
    · refine gv_aload_n 78 S 0 0 dX11_findSplit_78 rfl rfl ?_
      refine gv_iload_n 79 S 1 1 dX11_findSplit_79 rfl rfl ?_
      refine gv_iload_n 80 S 2 2 dX11_findSplit_80 rfl rfl ?_
      refine gv_iload_n 81 S 3 3 dX11_findSplit_81 rfl rfl ?_
      obtain ⟨r3, M4, hc5, h⟩ := bi_some h
      refine gv_cVi 82 S (As := [.int v1, .int v2, .int v3]) (rest := []) (c_X11_canSplit l X M v1 v2 v3 r3 M4 hc5) (hO_83 X) rfl (cwV 3 S.1.2.2.2.2 gX11_findSplit_X11_canSplit rfl rfl rfl (by decide +kernel) ⟨Nat.le_of_ble_eq_true rfl, Nat.le_of_ble_eq_true rfl⟩) rfl rfl (Nat.le_of_ble_eq_true rfl) dX11_findSplit_82 ?_
      refine gv_if_eq 85 S 119 h dX11_findSplit_85 (by decide) (fun h => ?_) (fun h => ?_)
      · refine gv_iinc 119 S 5 (v5 + (1 : Int32)) (lv' := [(5, .int (v5 + (1 : Int32))), (0, .ref (X.2.2 83)), (1, .int v1), (2, .int v2), (3, .int v3), (4, .int v4), (6, .int v6), (7, .int v7)]) dX11_findSplit_119 rfl rfl (Nat.le_of_ble_eq_true rfl) rfl ?_
        refine gv_goto 122 S 34 dX11_findSplit_122 (by decide) ?_
        exact gv_sub [1, 2, 3, 4, 5, 0] rfl (hrec34 M4 v1 v2 v3 v4 (v5 + (1 : Int32)) h)
      · refine gv_iconst 88 S (0 : Int32) dX11_findSplit_88 (by decide) ?_
        refine gv_istore 89 S (lv' := [(7, .int (0 : Int32)), (0, .ref (X.2.2 83)), (1, .int v1), (2, .int v2), (3, .int v3), (4, .int v4), (5, .int v5), (6, .int v6)]) dX11_findSplit_89 (Nat.le_of_ble_eq_true rfl) rfl ?_
        exact gv_sub [1, 3, 4, 0] rfl (t_X11_findSplit_91 S FU M4 v2 v3 (0 : Int32) h)
    · refine gv_aload_n 55 S 0 0 dX11_findSplit_55 rfl rfl ?_
      refine gv_get 56 S (hF_83_cueOf X) mf_X11_findSplit_62 dX11_findSplit_56 ?_
      refine gv_iload 59 S 7 dX11_findSplit_59 rfl ?_
      refine gv_iload 61 S 6 dX11_findSplit_61 rfl ?_
      refine gv_iload_n 63 S 3 3 dX11_findSplit_63 rfl rfl ?_
      refine gv_iremG 64 S h dX11_findSplit_64 (fun h => ?_)
      refine gv_iast 65 S h (hI_101 X) dX11_findSplit_65 (fun M6 h => ?_)
      refine gv_iload 66 S 6 dX11_findSplit_66 rfl ?_
      refine gv_iload_n 68 S 3 3 dX11_findSplit_68 rfl rfl ?_
      refine gv_idivG 69 S h dX11_findSplit_69 (fun h => ?_)
      refine gv_nmi h (fun x7 h => ?_)
      refine gv_istore 70 S (lv' := [(6, .int x7), (0, .ref (X.2.2 83)), (1, .int v1), (2, .int v2), (3, .int v3), (4, .int v4), (5, .int v5), (7, .int v7)]) dX11_findSplit_70 (Nat.le_of_ble_eq_true rfl) rfl ?_
      refine gv_iinc 72 S 7 (v7 + (-1 : Int32)) (lv' := [(7, .int (v7 + (-1 : Int32))), (6, .int x7), (0, .ref (X.2.2 83)), (1, .int v1), (2, .int v2), (3, .int v3), (4, .int v4), (5, .int v5)]) dX11_findSplit_72 rfl rfl (Nat.le_of_ble_eq_true rfl) rfl ?_
      refine gv_goto 75 S 50 dX11_findSplit_75 (by decide) ?_
      exact gv_sub [2, 3, 4, 5, 6, 7, 1, 0] rfl (ih M6 v1 v2 v3 v4 v5 x7 (v7 + (-1 : Int32)) h)
set_option maxHeartbeats 4000000 in
set_option maxRecDepth 100000 in
theorem t_X11_findSplit_34 {p : Program} {l : Launch} {e : Env} {s : State} {m : MethodId} {args : Array Value} {below : List Frame} {meth : Method} {c : Code} {X : GE} {r : Int32} {M' : MM} (S : CX p s m args meth c cX11_findSplit 8 wsX11_findSplit RX11 (some .int) X) (rec2 : MM → Int32 → Int32 → Int32 → Option (Int32 × MM)) (hrec2 : ∀ (M : MM) (v1 : Int32) (v2 : Int32) (v3 : Int32), rec2 M v1 v2 v3 = some (r, M') → V p l e (headSpec wsX11_findSplit rm_X11_findSplit).room s m args below meth c 8 X (MQ below (gQi X r M') args s 0 0 (gA X)) M 2 [(0, .ref (X.2.2 83)), (1, .int v1), (2, .int v2), (3, .int v3)] []) : ∀ (n : Nat) (M : MM) (v1 : Int32) (v2 : Int32) (v3 : Int32) (v4 : Int32) (v5 : Int32) (h : g_X11_findSplit_34 rec2 n M v1 v2 v3 v4 v5 = some (r, M')), V p l e (headSpec wsX11_findSplit rm_X11_findSplit).room s m args below meth c 8 X (MQ below (gQi X r M') args s 0 0 (gA X)) M 34 [(0, .ref (X.2.2 83)), (1, .int v1), (2, .int v2), (3, .int v3), (4, .int v4), (5, .int v5)] [] := by
  intro n
  induction n with
  | zero =>
    intro M v1 v2 v3 v4 v5 h
    rw [g_X11_findSplit_34] at h
    cases h
  | succ n ih =>
    intro M v1 v2 v3 v4 v5 h
    rw [g_X11_findSplit_34] at h
    refine gv_iload 34 S 5 dX11_findSplit_34 rfl ?_
    refine gv_iload 36 S 4 dX11_findSplit_36 rfl ?_
    refine gv_icmp_ge 38 S 125 h dX11_findSplit_38 (by decide) (fun h => ?_) (fun h => ?_)
    · refine gv_iinc 125 S 3 (v3 + (1 : Int32)) (lv' := [(3, .int (v3 + (1 : Int32))), (0, .ref (X.2.2 83)), (1, .int v1), (2, .int v2), (4, .int v4), (5, .int v5)]) dX11_findSplit_125 rfl rfl (Nat.le_of_ble_eq_true rfl) rfl ?_
      refine gv_goto 128 S 2 dX11_findSplit_128 (by decide) ?_
      exact gv_sub [1, 2, 3, 0] rfl (hrec2 M v1 v2 (v3 + (1 : Int32)) h)
    · refine gv_iload 41 S 5 dX11_findSplit_41 rfl ?_
      refine gv_istore 43 S (lv' := [(6, .int v5), (0, .ref (X.2.2 83)), (1, .int v1), (2, .int v2), (3, .int v3), (4, .int v4), (5, .int v5)]) dX11_findSplit_43 (Nat.le_of_ble_eq_true rfl) rfl ?_
      refine gv_iload_n 45 S 2 3 dX11_findSplit_45 rfl rfl ?_
      refine gv_iconst 46 S (1 : Int32) dX11_findSplit_46 (by decide) ?_
      refine gv_isub 47 S dX11_findSplit_47 ?_
      refine gv_nmi h (fun x2 h => ?_)
      refine gv_istore 48 S (lv' := [(7, .int x2), (6, .int v5), (0, .ref (X.2.2 83)), (1, .int v1), (2, .int v2), (3, .int v3), (4, .int v4), (5, .int v5)]) dX11_findSplit_48 (Nat.le_of_ble_eq_true rfl) rfl ?_
      exact gv_sub [2, 3, 4, 5, 6, 7, 1, 0] rfl (t_X11_findSplit_50 S rec2 hrec2 (g_X11_findSplit_34 rec2 n) ih FU M v1 v2 v3 v4 v5 v5 x2 h)
set_option maxHeartbeats 4000000 in
set_option maxRecDepth 100000 in
theorem t_X11_findSplit_13 {p : Program} {l : Launch} {e : Env} {s : State} {m : MethodId} {args : Array Value} {below : List Frame} {meth : Method} {c : Code} {X : GE} {r : Int32} {M' : MM} (S : CX p s m args meth c cX11_findSplit 8 wsX11_findSplit RX11 (some .int) X) (rec2 : MM → Int32 → Int32 → Int32 → Option (Int32 × MM)) (hrec2 : ∀ (M : MM) (v1 : Int32) (v2 : Int32) (v3 : Int32), rec2 M v1 v2 v3 = some (r, M') → V p l e (headSpec wsX11_findSplit rm_X11_findSplit).room s m args below meth c 8 X (MQ below (gQi X r M') args s 0 0 (gA X)) M 2 [(0, .ref (X.2.2 83)), (1, .int v1), (2, .int v2), (3, .int v3)] []) : ∀ (n : Nat) (M : MM) (v1 : Int32) (v2 : Int32) (v3 : Int32) (v4 : Int32) (v5 : Int32) (h : g_X11_findSplit_13 rec2 n M v1 v2 v3 v4 v5 = some (r, M')), V p l e (headSpec wsX11_findSplit rm_X11_findSplit).room s m args below meth c 8 X (MQ below (gQi X r M') args s 0 0 (gA X)) M 13 [(0, .ref (X.2.2 83)), (1, .int v1), (2, .int v2), (3, .int v3), (4, .int v4), (5, .int v5)] [] := by
  intro n
  induction n with
  | zero =>
    intro M v1 v2 v3 v4 v5 h
    rw [g_X11_findSplit_13] at h
    cases h
  | succ n ih =>
    intro M v1 v2 v3 v4 v5 h
    rw [g_X11_findSplit_13] at h
    refine gv_iload 13 S 5 dX11_findSplit_13 rfl ?_
    refine gv_iload_n 15 S 2 2 dX11_findSplit_15 rfl rfl ?_
    refine gv_icmp_ge 16 S 31 h dX11_findSplit_16 (by decide) (fun h => ?_) (fun h => ?_)
    · refine gv_iconst 31 S (0 : Int32) dX11_findSplit_31 (by decide) ?_
      refine gv_istore 32 S (lv' := [(5, .int (0 : Int32)), (0, .ref (X.2.2 83)), (1, .int v1), (2, .int v2), (3, .int v3), (4, .int v4)]) dX11_findSplit_32 (Nat.le_of_ble_eq_true rfl) rfl ?_
      exact gv_sub [1, 2, 3, 4, 5, 0] rfl (t_X11_findSplit_34 S rec2 hrec2 FU M v1 v2 v3 v4 (0 : Int32) h)
    · refine gv_iload 19 S 4 dX11_findSplit_19 rfl ?_
      refine gv_iload_n 21 S 3 3 dX11_findSplit_21 rfl rfl ?_
      refine gv_imul 22 S dX11_findSplit_22 ?_
      refine gv_nmi h (fun x1 h => ?_)
      refine gv_istore 23 S (lv' := [(4, .int x1), (0, .ref (X.2.2 83)), (1, .int v1), (2, .int v2), (3, .int v3), (5, .int v5)]) dX11_findSplit_23 (Nat.le_of_ble_eq_true rfl) rfl ?_
      refine gv_iinc 25 S 5 (v5 + (1 : Int32)) (lv' := [(5, .int (v5 + (1 : Int32))), (4, .int x1), (0, .ref (X.2.2 83)), (1, .int v1), (2, .int v2), (3, .int v3)]) dX11_findSplit_25 rfl rfl (Nat.le_of_ble_eq_true rfl) rfl ?_
      refine gv_goto 28 S 13 dX11_findSplit_28 (by decide) ?_
      exact gv_sub [2, 3, 4, 5, 1, 0] rfl (ih M v1 v2 v3 x1 (v5 + (1 : Int32)) h)
set_option maxHeartbeats 4000000 in
set_option maxRecDepth 100000 in
theorem t_X11_findSplit_2 {p : Program} {l : Launch} {e : Env} {s : State} {m : MethodId} {args : Array Value} {below : List Frame} {meth : Method} {c : Code} {X : GE} {r : Int32} {M' : MM} (S : CX p s m args meth c cX11_findSplit 8 wsX11_findSplit RX11 (some .int) X) : ∀ (n : Nat) (M : MM) (v1 : Int32) (v2 : Int32) (v3 : Int32) (h : g_X11_findSplit_2 n M v1 v2 v3 = some (r, M')), V p l e (headSpec wsX11_findSplit rm_X11_findSplit).room s m args below meth c 8 X (MQ below (gQi X r M') args s 0 0 (gA X)) M 2 [(0, .ref (X.2.2 83)), (1, .int v1), (2, .int v2), (3, .int v3)] [] := by
  intro n
  induction n with
  | zero =>
    intro M v1 v2 v3 h
    rw [g_X11_findSplit_2] at h
    cases h
  | succ n ih =>
    intro M v1 v2 v3 h
    rw [g_X11_findSplit_2] at h
    refine gv_iload_n 2 S 3 3 dX11_findSplit_2 rfl rfl ?_
    refine gv_iload_n 3 S 2 2 dX11_findSplit_3 rfl rfl ?_
    refine gv_icmp_gt 4 S 131 h dX11_findSplit_4 (by decide) (fun h => ?_) (fun h => ?_)
    · refine gv_bipush 131 S (-9 : Int32) dX11_findSplit_131 (by decide) ?_
      exact gv_iret 133 S h dX11_findSplit_133
    · refine gv_iconst 7 S (1 : Int32) dX11_findSplit_7 (by decide) ?_
      refine gv_istore 8 S (lv' := [(4, .int (1 : Int32)), (0, .ref (X.2.2 83)), (1, .int v1), (2, .int v2), (3, .int v3)]) dX11_findSplit_8 (Nat.le_of_ble_eq_true rfl) rfl ?_
      refine gv_iconst 10 S (0 : Int32) dX11_findSplit_10 (by decide) ?_
      refine gv_istore 11 S (lv' := [(5, .int (0 : Int32)), (4, .int (1 : Int32)), (0, .ref (X.2.2 83)), (1, .int v1), (2, .int v2), (3, .int v3)]) dX11_findSplit_11 (Nat.le_of_ble_eq_true rfl) rfl ?_
      exact gv_sub [2, 3, 4, 5, 1, 0] rfl (t_X11_findSplit_13 S (g_X11_findSplit_2 n) ih FU M v1 v2 v3 (1 : Int32) (0 : Int32) h)
set_option maxHeartbeats 4000000 in
set_option maxRecDepth 100000 in
theorem c_X11_findSplit (l : Launch) (X : GE) (M : MM) (v1 : Int32) (v2 : Int32) (r : Int32) (M' : MM) (h : f_X11_findSplit M v1 v2 = some (r, M')) : CTi l yX11_findSplit wsX11_findSplit rm_X11_findSplit X [.ref (X.2.2 83), .int v1, .int v2] M r M' := by
  refine ct_i (own := RX11) (by decide +kernel) rfl rfl (Nat.le_of_ble_eq_true rfl) (lv0 := [(0, .ref (X.2.2 83)), (1, .int v1), (2, .int v2)]) rfl ?_
  intro p e s m args below meth c S
  unfold f_X11_findSplit at h
  refine gv_iconst 0 S (0 : Int32) dX11_findSplit_0 (by decide) ?_
  refine gv_istore_n 1 S 3 (lv' := [(3, .int (0 : Int32)), (0, .ref (X.2.2 83)), (1, .int v1), (2, .int v2)]) dX11_findSplit_1 rfl (Nat.le_of_ble_eq_true rfl) rfl ?_
  exact gv_sub [1, 2, 3, 0] rfl (t_X11_findSplit_2 S FU M v1 v2 (0 : Int32) h)
theorem mi_X11_split_11 : ∀ w ∈ u_ws RX11 TX11 39, w ∈ wsX11_split := by decide +kernel
theorem mp_X11_split_77 : MP wsX11_split RX11 77 10 0 .int := ⟨RX11, TX11, 39, tyX11, rfl, by decide, mi_X11_split_11, by decide +kernel, tyX11_ok, nmX11, rfl, by decide +kernel⟩
theorem mf_X11_split_87 : MF wsX11_split RX11 87 10 5 := ⟨RX11, TX11, 39, rfl, by decide, mi_X11_split_11, by decide +kernel⟩
theorem mf_X11_split_65 : MF wsX11_split RX11 65 10 34 := ⟨RX11, TX11, 39, rfl, by decide, mi_X11_split_11, by decide +kernel⟩
abbrev rm_X11_split : Room := { frames := 4, cells := 0, slots := 0, locals := 97 }
set_option maxHeartbeats 4000000 in
set_option maxRecDepth 100000 in
theorem c_X11_split (l : Launch) (X : GE) (M : MM) (v1 : Int32) (v2 : Int32) (v3 : Int32) (v4 : Int32) (v5 : Int32) (r : Int32) (M' : MM) (h : f_X11_split M v1 v2 v3 v4 v5 = some (r, M')) : CTi l yX11_split wsX11_split rm_X11_split X [.ref (X.2.2 83), .int v1, .int v2, .int v3, .int v4, .int v5] M r M' := by
  refine ct_i (own := RX11) (by decide +kernel) rfl rfl (Nat.le_of_ble_eq_true rfl) (lv0 := [(0, .ref (X.2.2 83)), (1, .int v1), (2, .int v2), (3, .int v3), (4, .int v4), (5, .int v5)]) rfl ?_
  intro p e s m args below meth c S
  unfold f_X11_split at h
  refine gv_aload_n 0 S 0 0 dX11_split_0 rfl rfl ?_
  refine gv_iconst 1 S (0 : Int32) dX11_split_1 (by decide) ?_
  refine gv_put 2 S h (hP_83_fault X) mp_X11_split_77 rfl rfl dX11_split_2 (fun M1 h => ?_)
  refine gv_iload_n 5 S 1 1 dX11_split_5 rfl rfl ?_
  obtain ⟨r2, hc3, h⟩ := br_some h
  refine gv_cSi 6 S (As := [.int v1]) (rest := []) (c_X11_isSheet l X M1 v1 r2 hc3) (va_cwS 1 S.1.2.2.2.2 gX11_split_X11_isSheet rfl rfl rfl (by decide +kernel) ⟨Nat.le_of_ble_eq_true rfl, Nat.le_of_ble_eq_true rfl⟩) rfl rfl (Nat.le_of_ble_eq_true rfl) dX11_split_6 ?_
  refine gv_if_ne 9 S 14 h dX11_split_9 (by decide) (fun h => ?_) (fun h => ?_)
  · refine gv_iload_n 14 S 2 2 dX11_split_14 rfl rfl ?_
    obtain ⟨r4, hc5, h⟩ := br_some h
    refine gv_cSi 15 S (As := [.int v2]) (rest := []) (c_X11_isSort l X M1 v2 r4 hc5) (va_cwS 1 S.1.2.2.2.2 gX11_split_X11_isSort rfl rfl rfl (by decide +kernel) ⟨Nat.le_of_ble_eq_true rfl, Nat.le_of_ble_eq_true rfl⟩) rfl rfl (Nat.le_of_ble_eq_true rfl) dX11_split_15 ?_
    refine gv_if_eq 18 S 41 h dX11_split_18 (by decide) (fun h => ?_) (fun h => ?_)
    · refine gv_bipush 41 S (-2 : Int32) dX11_split_41 (by decide) ?_
      exact gv_iret 43 S h dX11_split_43
    · refine gv_iload 21 S 4 dX11_split_21 rfl ?_
      refine gv_iconst 23 S (0 : Int32) dX11_split_23 (by decide) ?_
      refine gv_iconst 24 S (5 : Int32) dX11_split_24 (by decide) ?_
      obtain ⟨r6, hc7, h⟩ := br_some h
      refine gv_cSi 25 S (As := [.int v4, .int (0 : Int32), .int (5 : Int32)]) (rest := []) (c_X11_within l X M1 v4 (0 : Int32) (5 : Int32) r6 hc7) (va_cwS 3 S.1.2.2.2.2 gX11_split_X11_within rfl rfl rfl (by decide +kernel) ⟨Nat.le_of_ble_eq_true rfl, Nat.le_of_ble_eq_true rfl⟩) rfl rfl (Nat.le_of_ble_eq_true rfl) dX11_split_25 ?_
      refine gv_if_eq 28 S 41 h dX11_split_28 (by decide) (fun h => ?_) (fun h => ?_)
      · refine gv_bipush 41 S (-2 : Int32) dX11_split_41 (by decide) ?_
        exact gv_iret 43 S h dX11_split_43
      · refine gv_iload 31 S 5 dX11_split_31 rfl ?_
        refine gv_iconst 33 S (-1 : Int32) dX11_split_33 (by decide) ?_
        refine gv_iconst 34 S (4 : Int32) dX11_split_34 (by decide) ?_
        obtain ⟨r8, hc9, h⟩ := br_some h
        refine gv_cSi 35 S (As := [.int v5, .int (-1 : Int32), .int (4 : Int32)]) (rest := []) (c_X11_within l X M1 v5 (-1 : Int32) (4 : Int32) r8 hc9) (va_cwS 3 S.1.2.2.2.2 gX11_split_X11_within rfl rfl rfl (by decide +kernel) ⟨Nat.le_of_ble_eq_true rfl, Nat.le_of_ble_eq_true rfl⟩) rfl rfl (Nat.le_of_ble_eq_true rfl) dX11_split_35 ?_
        refine gv_if_ne 38 S 44 h dX11_split_38 (by decide) (fun h => ?_) (fun h => ?_)
        · refine gv_aload_n 44 S 0 0 dX11_split_44 rfl rfl ?_
          refine gv_iload_n 45 S 1 1 dX11_split_45 rfl rfl ?_
          refine gv_iload_n 46 S 2 2 dX11_split_46 rfl rfl ?_
          refine gv_iload_n 47 S 3 3 dX11_split_47 rfl rfl ?_
          refine gv_iconst 48 S (2 : Int32) dX11_split_48 (by decide) ?_
          refine gv_iload 49 S 4 dX11_split_49 rfl ?_
          refine gv_imul 51 S dX11_split_51 ?_
          obtain ⟨r10, hc11, h⟩ := br_some h
          refine gv_cVi 52 S (As := [.int v1, .int v2, .int v3, .int ((2 : Int32) * v4)]) (rest := []) (c_X11_against l X M1 v1 v2 v3 ((2 : Int32) * v4) r10 hc11) (hO_83 X) rfl (cwV 4 S.1.2.2.2.2 gX11_split_X11_against rfl rfl rfl (by decide +kernel) ⟨Nat.le_of_ble_eq_true rfl, Nat.le_of_ble_eq_true rfl⟩) rfl rfl (Nat.le_of_ble_eq_true rfl) dX11_split_52 ?_
          refine gv_istore 55 S (lv' := [(6, .int r10), (0, .ref (X.2.2 83)), (1, .int v1), (2, .int v2), (3, .int v3), (4, .int v4), (5, .int v5)]) dX11_split_55 (Nat.le_of_ble_eq_true rfl) rfl ?_
          refine gv_iload 57 S 0 dX11_split_57 rfl ?_
          refine gv_if_eq 59 S 69 h dX11_split_59 (by decide) (fun h => ?_) (fun h => ?_)
          · refine gv_aload_n 69 S 0 1 dX11_split_69 rfl rfl ?_
            refine gv_get 70 S (hF_83_battens X) mf_X11_split_87 dX11_split_70 ?_
            refine gv_if_ne 73 S 79 h dX11_split_73 (by decide) (fun h => ?_) (fun h => ?_)
            · refine gv_bipush 79 S (60 : Int32) dX11_split_79 (by decide) ?_
              refine gv_iload_n 81 S 1 2 dX11_split_81 rfl rfl ?_
              refine gv_imul 82 S dX11_split_82 ?_
              refine gv_iload_n 83 S 3 4 dX11_split_83 rfl rfl ?_
              refine gv_iadd 84 S dX11_split_84 ?_
              refine gv_nmi h (fun x12 h => ?_)
              refine gv_istore 85 S (lv' := [(7, .int x12), (6, .int r10), (0, .ref (X.2.2 83)), (1, .int v1), (2, .int v2), (3, .int v3), (4, .int v4), (5, .int v5)]) dX11_split_85 (Nat.le_of_ble_eq_true rfl) rfl ?_
              refine gv_aload_n 87 S 0 2 dX11_split_87 rfl rfl ?_
              refine gv_iload 88 S 0 dX11_split_88 rfl ?_
              refine gv_iload 90 S 6 dX11_split_90 rfl ?_
              obtain ⟨r13, hc14, h⟩ := br_some h
              refine gv_cVi 92 S (As := [.int x12, .int v4]) (rest := []) (c_X11_refusesPairs l X M1 x12 v4 r13 hc14) (hO_83 X) rfl (cwV 2 S.1.2.2.2.2 gX11_split_X11_refusesPairs rfl rfl rfl (by decide +kernel) ⟨Nat.le_of_ble_eq_true rfl, Nat.le_of_ble_eq_true rfl⟩) rfl rfl (Nat.le_of_ble_eq_true rfl) dX11_split_92 ?_
              refine gv_istore 95 S (lv' := [(8, .int r13), (7, .int x12), (6, .int r10), (0, .ref (X.2.2 83)), (1, .int v1), (2, .int v2), (3, .int v3), (4, .int v4), (5, .int v5)]) dX11_split_95 (Nat.le_of_ble_eq_true rfl) rfl ?_
              refine gv_iload 97 S 0 dX11_split_97 rfl ?_
              refine gv_if_eq 99 S 105 h dX11_split_99 (by decide) (fun h => ?_) (fun h => ?_)
              · refine gv_aload_n 105 S 0 3 dX11_split_105 rfl rfl ?_
                refine gv_iload 106 S 1 dX11_split_106 rfl ?_
                refine gv_iload 108 S 7 dX11_split_108 rfl ?_
                obtain ⟨r15, hc16, h⟩ := br_some h
                refine gv_cVi 110 S (As := [.int x12, .int v4]) (rest := []) (c_X11_isTwice l X M1 x12 v4 r15 hc16) (hO_83 X) rfl (cwV 2 S.1.2.2.2.2 gX11_split_X11_isTwice rfl rfl rfl (by decide +kernel) ⟨Nat.le_of_ble_eq_true rfl, Nat.le_of_ble_eq_true rfl⟩) rfl rfl (Nat.le_of_ble_eq_true rfl) dX11_split_110 ?_
                refine gv_if_eq 113 S 119 h dX11_split_113 (by decide) (fun h => ?_) (fun h => ?_)
                · refine gv_aload_n 119 S 0 3 dX11_split_119 rfl rfl ?_
                  refine gv_iload 120 S 1 dX11_split_120 rfl ?_
                  refine gv_iload 122 S 7 dX11_split_122 rfl ?_
                  obtain ⟨r17, M18, hc19, h⟩ := bi_some h
                  refine gv_cVi 124 S (As := [.int x12, .int v4]) (rest := []) (c_X11_findSplit l X M1 x12 v4 r17 M18 hc19) (hO_83 X) rfl (cwV 2 S.1.2.2.2.2 gX11_split_X11_findSplit rfl rfl rfl (by decide +kernel) ⟨Nat.le_of_ble_eq_true rfl, Nat.le_of_ble_eq_true rfl⟩) rfl rfl (Nat.le_of_ble_eq_true rfl) dX11_split_124 ?_
                  refine gv_istore 127 S (lv' := [(9, .int r17), (8, .int r13), (7, .int x12), (6, .int r10), (0, .ref (X.2.2 83)), (1, .int v1), (2, .int v2), (3, .int v3), (4, .int v4), (5, .int v5)]) dX11_split_127 (Nat.le_of_ble_eq_true rfl) rfl ?_
                  refine gv_iload 129 S 9 dX11_split_129 rfl ?_
                  refine gv_iconst 131 S (-1 : Int32) dX11_split_131 (by decide) ?_
                  refine gv_icmp_ne 132 S 138 h dX11_split_132 (by decide) (fun h => ?_) (fun h => ?_)
                  · refine gv_iload 138 S 0 dX11_split_138 rfl ?_
                    refine gv_bipush 140 S (-9 : Int32) dX11_split_140 (by decide) ?_
                    refine gv_icmp_eq 142 S 162 h dX11_split_142 (by decide) (fun h => ?_) (fun h => ?_)
                    · refine gv_bipush 162 S (-9 : Int32) dX11_split_162 (by decide) ?_
                      exact gv_iret 164 S h dX11_split_164
                    · refine gv_iload 145 S 9 dX11_split_145 rfl ?_
                      refine gv_iload 147 S 8 dX11_split_147 rfl ?_
                      refine gv_icmp_ge 149 S 162 h dX11_split_149 (by decide) (fun h => ?_) (fun h => ?_)
                      · refine gv_bipush 162 S (-9 : Int32) dX11_split_162 (by decide) ?_
                        exact gv_iret 164 S h dX11_split_164
                      · refine gv_aload_n 152 S 0 4 dX11_split_152 rfl rfl ?_
                        refine gv_get 153 S (hF_83_splitted X) mf_X11_split_65 dX11_split_153 ?_
                        refine gv_iload 156 S 9 dX11_split_156 rfl ?_
                        refine gv_iald 158 S h (hI_102 X) dX11_split_158 (fun h => ?_)
                        refine gv_goto 159 S 164 dX11_split_159 (by decide) ?_
                        exact gv_iret 164 S h dX11_split_164
                  · refine gv_iload 135 S 0 dX11_split_135 rfl ?_
                    exact gv_iret 137 S h dX11_split_137
                · refine gv_bipush 116 S (-3 : Int32) dX11_split_116 (by decide) ?_
                  exact gv_iret 118 S h dX11_split_118
              · refine gv_iload 102 S 0 dX11_split_102 rfl ?_
                exact gv_iret 104 S h dX11_split_104
            · refine gv_bipush 76 S (-3 : Int32) dX11_split_76 (by decide) ?_
              exact gv_iret 78 S h dX11_split_78
          · refine gv_aload_n 62 S 0 1 dX11_split_62 rfl rfl ?_
            refine gv_iload 63 S 0 dX11_split_63 rfl ?_
            obtain ⟨r20, M21, hc22, h⟩ := bi_some h
            refine gv_cVi 65 S (As := [.int r10]) (rest := []) (c_X11_fails l X M1 r10 r20 M21 hc22) (hO_83 X) rfl (cwV 1 S.1.2.2.2.2 gX11_split_X11_fails rfl rfl rfl (by decide +kernel) ⟨Nat.le_of_ble_eq_true rfl, Nat.le_of_ble_eq_true rfl⟩) rfl rfl (Nat.le_of_ble_eq_true rfl) dX11_split_65 ?_
            exact gv_iret 68 S h dX11_split_68
        · refine gv_bipush 41 S (-2 : Int32) dX11_split_41 (by decide) ?_
          exact gv_iret 43 S h dX11_split_43
  · refine gv_iconst 12 S (-1 : Int32) dX11_split_12 (by decide) ?_
    exact gv_iret 13 S h dX11_split_13
theorem mi_X11_balance_11 : ∀ w ∈ u_ws RX11 TX11 39, w ∈ wsX11_balance := by decide +kernel
theorem mf_X11_balance_25 : MF wsX11_balance RX11 25 10 11 := ⟨RX11, TX11, 39, rfl, by decide, mi_X11_balance_11, by decide +kernel⟩
theorem mf_X11_balance_129 : MF wsX11_balance RX11 129 10 8 := ⟨RX11, TX11, 39, rfl, by decide, mi_X11_balance_11, by decide +kernel⟩
abbrev rm_X11_balance : Room := { frames := 2, cells := 0, slots := 0, locals := 42 }
set_option maxHeartbeats 4000000 in
set_option maxRecDepth 100000 in
theorem t_X11_balance_74 {p : Program} {l : Launch} {e : Env} {s : State} {m : MethodId} {args : Array Value} {below : List Frame} {meth : Method} {c : Code} {X : GE} {r : Int32} {M' : MM} (S : CX p s m args meth c cX11_balance 7 wsX11_balance RX11 (some .int) X) (rec34 : MM → Int32 → Int32 → Int32 → Int32 → Int32 → Option (Int32 × MM)) (hrec34 : ∀ (M : MM) (v1 : Int32) (v2 : Int32) (v3 : Int32) (v4 : Int32) (v5 : Int32), rec34 M v1 v2 v3 v4 v5 = some (r, M') → V p l e (headSpec wsX11_balance rm_X11_balance).room s m args below meth c 7 X (MQ below (gQi X r M') args s 0 0 (gA X)) M 34 [(0, .ref (X.2.2 83)), (1, .int v1), (2, .int v2), (3, .int v3), (4, .int v4), (5, .int v5)] []) (M : MM) (v1 : Int32) (v2 : Int32) (v3 : Int32) (v4 : Int32) (v5 : Int32) (s0 : Int32) (h : g_X11_balance_74 rec34 M v1 v2 v3 v4 v5 s0 = some (r, M')) : V p l e (headSpec wsX11_balance rm_X11_balance).room s m args below meth c 7 X (MQ below (gQi X r M') args s 0 0 (gA X)) M 74 [(0, .ref (X.2.2 83)), (1, .int v1), (2, .int v2), (3, .int v3), (4, .int v4), (5, .int v5)] [.int s0] := by
  unfold g_X11_balance_74 at h
  refine gv_istore 74 S (lv' := [(6, .int s0), (0, .ref (X.2.2 83)), (1, .int v1), (2, .int v2), (3, .int v3), (4, .int v4), (5, .int v5)]) dX11_balance_74 (Nat.le_of_ble_eq_true rfl) rfl ?_
  refine gv_iload 76 S 0 dX11_balance_76 rfl ?_
  refine gv_if_eq 78 S 108 h dX11_balance_78 (by decide) (fun h => ?_) (fun h => ?_)
  · refine gv_iload 108 S 5 dX11_balance_108 rfl ?_
    refine gv_istore 110 S (lv' := [(4, .int v4), (6, .int s0), (0, .ref (X.2.2 83)), (1, .int v1), (2, .int v2), (3, .int v3), (5, .int v5)]) dX11_balance_110 (Nat.le_of_ble_eq_true rfl) rfl ?_
    refine gv_iinc 112 S 6 (v5 + (1 : Int32)) (lv' := [(5, .int (v5 + (1 : Int32))), (4, .int v4), (6, .int s0), (0, .ref (X.2.2 83)), (1, .int v1), (2, .int v2), (3, .int v3)]) dX11_balance_112 rfl rfl (Nat.le_of_ble_eq_true rfl) rfl ?_
    refine gv_goto 115 S 34 dX11_balance_115 (by decide) ?_
    exact gv_sub [3, 4, 5, 6, 1, 0] rfl (hrec34 M v1 v2 v3 v4 (v5 + (1 : Int32)) h)
  · refine gv_iload 81 S 5 dX11_balance_81 rfl ?_
    refine gv_bipush 83 S (-9 : Int32) dX11_balance_83 (by decide) ?_
    refine gv_icmp_eq 85 S 103 h dX11_balance_85 (by decide) (fun h => ?_) (fun h => ?_)
    · refine gv_iload 103 S 6 dX11_balance_103 rfl ?_
      refine gv_goto 105 S 110 dX11_balance_105 (by decide) ?_
      refine gv_istore 110 S (lv' := [(4, .int v5), (6, .int s0), (0, .ref (X.2.2 83)), (1, .int v1), (2, .int v2), (3, .int v3), (5, .int v5)]) dX11_balance_110 (Nat.le_of_ble_eq_true rfl) rfl ?_
      refine gv_iinc 112 S 6 (v5 + (1 : Int32)) (lv' := [(5, .int (v5 + (1 : Int32))), (4, .int v5), (6, .int s0), (0, .ref (X.2.2 83)), (1, .int v1), (2, .int v2), (3, .int v3)]) dX11_balance_112 rfl rfl (Nat.le_of_ble_eq_true rfl) rfl ?_
      refine gv_goto 115 S 34 dX11_balance_115 (by decide) ?_
      exact gv_sub [3, 4, 5, 6, 1, 0] rfl (hrec34 M v1 v2 v3 v5 (v5 + (1 : Int32)) h)
    · refine gv_iload 88 S 6 dX11_balance_88 rfl ?_
      refine gv_iload_n 90 S 3 4 dX11_balance_90 rfl rfl ?_
      obtain ⟨r11, hc12, h⟩ := br_some h
      refine gv_cSi 91 S (As := [.int v5, .int v3]) (rest := []) (c_X11_apart l X M v5 v3 r11 hc12) (va_cwS 2 S.1.2.2.2.2 gX11_balance_X11_apart rfl rfl rfl (by decide +kernel) ⟨Nat.le_of_ble_eq_true rfl, Nat.le_of_ble_eq_true rfl⟩) rfl rfl (Nat.le_of_ble_eq_true rfl) dX11_balance_91 ?_
      refine gv_iload 94 S 5 dX11_balance_94 rfl ?_
      refine gv_iload_n 96 S 3 4 dX11_balance_96 rfl rfl ?_
      obtain ⟨r13, hc14, h⟩ := br_some h
      refine gv_cSi 97 S (As := [.int v4, .int v3]) (rest := [.int r11]) (c_X11_apart l X M v4 v3 r13 hc14) (va_cwS 2 S.1.2.2.2.2 gX11_balance_X11_apart rfl rfl rfl (by decide +kernel) ⟨Nat.le_of_ble_eq_true rfl, Nat.le_of_ble_eq_true rfl⟩) rfl rfl (Nat.le_of_ble_eq_true rfl) dX11_balance_97 ?_
      refine gv_icmp_ge 100 S 108 h dX11_balance_100 (by decide) (fun h => ?_) (fun h => ?_)
      · refine gv_iload 108 S 5 dX11_balance_108 rfl ?_
        refine gv_istore 110 S (lv' := [(4, .int v4), (6, .int s0), (0, .ref (X.2.2 83)), (1, .int v1), (2, .int v2), (3, .int v3), (5, .int v5)]) dX11_balance_110 (Nat.le_of_ble_eq_true rfl) rfl ?_
        refine gv_iinc 112 S 6 (v5 + (1 : Int32)) (lv' := [(5, .int (v5 + (1 : Int32))), (4, .int v4), (6, .int s0), (0, .ref (X.2.2 83)), (1, .int v1), (2, .int v2), (3, .int v3)]) dX11_balance_112 rfl rfl (Nat.le_of_ble_eq_true rfl) rfl ?_
        refine gv_goto 115 S 34 dX11_balance_115 (by decide) ?_
        exact gv_sub [3, 4, 5, 6, 1, 0] rfl (hrec34 M v1 v2 v3 v4 (v5 + (1 : Int32)) h)
      · refine gv_iload 103 S 6 dX11_balance_103 rfl ?_
        refine gv_goto 105 S 110 dX11_balance_105 (by decide) ?_
        refine gv_istore 110 S (lv' := [(4, .int v5), (6, .int s0), (0, .ref (X.2.2 83)), (1, .int v1), (2, .int v2), (3, .int v3), (5, .int v5)]) dX11_balance_110 (Nat.le_of_ble_eq_true rfl) rfl ?_
        refine gv_iinc 112 S 6 (v5 + (1 : Int32)) (lv' := [(5, .int (v5 + (1 : Int32))), (4, .int v5), (6, .int s0), (0, .ref (X.2.2 83)), (1, .int v1), (2, .int v2), (3, .int v3)]) dX11_balance_112 rfl rfl (Nat.le_of_ble_eq_true rfl) rfl ?_
        refine gv_goto 115 S 34 dX11_balance_115 (by decide) ?_
        exact gv_sub [3, 4, 5, 6, 1, 0] rfl (hrec34 M v1 v2 v3 v5 (v5 + (1 : Int32)) h)
set_option maxHeartbeats 4000000 in
set_option maxRecDepth 100000 in
theorem t_X11_balance_34 {p : Program} {l : Launch} {e : Env} {s : State} {m : MethodId} {args : Array Value} {below : List Frame} {meth : Method} {c : Code} {X : GE} {r : Int32} {M' : MM} (S : CX p s m args meth c cX11_balance 7 wsX11_balance RX11 (some .int) X) : ∀ (n : Nat) (M : MM) (v1 : Int32) (v2 : Int32) (v3 : Int32) (v4 : Int32) (v5 : Int32) (h : g_X11_balance_34 n M v1 v2 v3 v4 v5 = some (r, M')), V p l e (headSpec wsX11_balance rm_X11_balance).room s m args below meth c 7 X (MQ below (gQi X r M') args s 0 0 (gA X)) M 34 [(0, .ref (X.2.2 83)), (1, .int v1), (2, .int v2), (3, .int v3), (4, .int v4), (5, .int v5)] [] := by
  intro n
  induction n with
  | zero =>
    intro M v1 v2 v3 v4 v5 h
    rw [g_X11_balance_34] at h
    cases h
  | succ n ih =>
    intro M v1 v2 v3 v4 v5 h
    rw [g_X11_balance_34] at h
    refine gv_iload 34 S 5 dX11_balance_34 rfl ?_
    refine gv_bipush 36 S (9 : Int32) dX11_balance_36 (by decide) ?_
    refine gv_icmp_gt 38 S 118 h dX11_balance_38 (by decide) (fun h => ?_) (fun h => ?_)
    · refine gv_aload_n 118 S 0 0 dX11_balance_118 rfl rfl ?_
      refine gv_get 119 S (hF_83_bricks X) mf_X11_balance_25 dX11_balance_119 ?_
      refine gv_iload_n 122 S 1 1 dX11_balance_122 rfl rfl ?_
      refine gv_iload_n 123 S 3 3 dX11_balance_123 rfl rfl ?_
      refine gv_iast 124 S h (hI_89 X) dX11_balance_124 (fun M6 h => ?_)
      refine gv_iload 125 S 4 dX11_balance_125 rfl ?_
      exact gv_iret 127 S h dX11_balance_127
    · refine gv_iload 41 S 5 dX11_balance_41 rfl ?_
      refine gv_iload_n 43 S 3 3 dX11_balance_43 rfl rfl ?_
      refine gv_aload_n 44 S 0 0 dX11_balance_44 rfl rfl ?_
      refine gv_get 45 S (hF_83_stock X) mf_X11_balance_129 dX11_balance_45 ?_
      refine gv_iadd 48 S dX11_balance_48 ?_
      refine gv_icmp_gt 49 S 118 h dX11_balance_49 (by decide) (fun h => ?_) (fun h => ?_)
      · refine gv_aload_n 118 S 0 0 dX11_balance_118 rfl rfl ?_
        refine gv_get 119 S (hF_83_bricks X) mf_X11_balance_25 dX11_balance_119 ?_
        refine gv_iload_n 122 S 1 1 dX11_balance_122 rfl rfl ?_
        refine gv_iload_n 123 S 3 3 dX11_balance_123 rfl rfl ?_
        refine gv_iast 124 S h (hI_89 X) dX11_balance_124 (fun M7 h => ?_)
        refine gv_iload 125 S 4 dX11_balance_125 rfl ?_
        exact gv_iret 127 S h dX11_balance_127
      · refine gv_aload_n 52 S 0 0 dX11_balance_52 rfl rfl ?_
        refine gv_get 53 S (hF_83_bricks X) mf_X11_balance_25 dX11_balance_53 ?_
        refine gv_iload_n 56 S 1 1 dX11_balance_56 rfl rfl ?_
        refine gv_iload 57 S 5 dX11_balance_57 rfl ?_
        refine gv_iast 59 S h (hI_89 X) dX11_balance_59 (fun M8 h => ?_)
        refine gv_aload_n 60 S 0 0 dX11_balance_60 rfl rfl ?_
        refine gv_iload_n 61 S 1 1 dX11_balance_61 rfl rfl ?_
        obtain ⟨r9, hc10, h⟩ := br_some h
        refine gv_cVi 62 S (As := [.int v1]) (rest := []) (c_X11_pullOf l X M8 v1 r9 hc10) (hO_83 X) rfl (cwV 1 S.1.2.2.2.2 gX11_balance_X11_pullOf rfl rfl rfl (by decide +kernel) ⟨Nat.le_of_ble_eq_true rfl, Nat.le_of_ble_eq_true rfl⟩) rfl rfl (Nat.le_of_ble_eq_true rfl) dX11_balance_62 ?_
        refine gv_iload_n 65 S 2 2 dX11_balance_65 rfl rfl ?_
        refine gv_icmp_gt 66 S 73 h dX11_balance_66 (by decide) (fun h => ?_) (fun h => ?_)
        · refine gv_iconst 73 S (0 : Int32) dX11_balance_73 (by decide) ?_
          exact gv_sub [0, 1, 2, 3, 4, 5] rfl (t_X11_balance_74 S (g_X11_balance_34 n) ih M8 v1 v2 v3 v4 v5 (0 : Int32) h)
        · refine gv_iconst 69 S (1 : Int32) dX11_balance_69 (by decide) ?_
          refine gv_goto 70 S 74 dX11_balance_70 (by decide) ?_
          exact gv_sub [0, 1, 2, 3, 4, 5] rfl (t_X11_balance_74 S (g_X11_balance_34 n) ih M8 v1 v2 v3 v4 v5 (1 : Int32) h)
set_option maxHeartbeats 4000000 in
set_option maxRecDepth 100000 in
theorem c_X11_balance (l : Launch) (X : GE) (M : MM) (v1 : Int32) (v2 : Int32) (r : Int32) (M' : MM) (h : f_X11_balance M v1 v2 = some (r, M')) : CTi l yX11_balance wsX11_balance rm_X11_balance X [.ref (X.2.2 83), .int v1, .int v2] M r M' := by
  refine ct_i (own := RX11) (by decide +kernel) rfl rfl (Nat.le_of_ble_eq_true rfl) (lv0 := [(0, .ref (X.2.2 83)), (1, .int v1), (2, .int v2)]) rfl ?_
  intro p e s m args below meth c S
  unfold f_X11_balance at h
  refine gv_aload_n 0 S 0 0 dX11_balance_0 rfl rfl ?_
  refine gv_iload_n 1 S 1 1 dX11_balance_1 rfl rfl ?_
  obtain ⟨r1, hc2, h⟩ := br_some h
  refine gv_cVi 2 S (As := [.int v1]) (rest := []) (c_X11_isBatten l X M v1 r1 hc2) (hO_83 X) rfl (cwV 1 S.1.2.2.2.2 gX11_balance_X11_isBatten rfl rfl rfl (by decide +kernel) ⟨Nat.le_of_ble_eq_true rfl, Nat.le_of_ble_eq_true rfl⟩) rfl rfl (Nat.le_of_ble_eq_true rfl) dX11_balance_2 ?_
  refine gv_if_ne 5 S 10 h dX11_balance_5 (by decide) (fun h => ?_) (fun h => ?_)
  · refine gv_iload_n 10 S 2 2 dX11_balance_10 rfl rfl ?_
    obtain ⟨r3, hc4, h⟩ := br_some h
    refine gv_cSi 11 S (As := [.int v2]) (rest := []) (c_X11_isDigit l X M v2 r3 hc4) (va_cwS 1 S.1.2.2.2.2 gX11_balance_X11_isDigit rfl rfl rfl (by decide +kernel) ⟨Nat.le_of_ble_eq_true rfl, Nat.le_of_ble_eq_true rfl⟩) rfl rfl (Nat.le_of_ble_eq_true rfl) dX11_balance_11 ?_
    refine gv_if_ne 14 S 20 h dX11_balance_14 (by decide) (fun h => ?_) (fun h => ?_)
    · refine gv_aload_n 20 S 0 0 dX11_balance_20 rfl rfl ?_
      refine gv_get 21 S (hF_83_bricks X) mf_X11_balance_25 dX11_balance_21 ?_
      refine gv_iload_n 24 S 1 1 dX11_balance_24 rfl rfl ?_
      refine gv_iald 25 S h (hI_89 X) dX11_balance_25 (fun h => ?_)
      refine gv_nmi h (fun x5 h => ?_)
      refine gv_istore_n 26 S 3 (lv' := [(3, .int x5), (0, .ref (X.2.2 83)), (1, .int v1), (2, .int v2)]) dX11_balance_26 rfl (Nat.le_of_ble_eq_true rfl) rfl ?_
      refine gv_bipush 27 S (-9 : Int32) dX11_balance_27 (by decide) ?_
      refine gv_istore 29 S (lv' := [(4, .int (-9 : Int32)), (3, .int x5), (0, .ref (X.2.2 83)), (1, .int v1), (2, .int v2)]) dX11_balance_29 (Nat.le_of_ble_eq_true rfl) rfl ?_
      refine gv_iconst 31 S (0 : Int32) dX11_balance_31 (by decide) ?_
      refine gv_istore 32 S (lv' := [(5, .int (0 : Int32)), (4, .int (-9 : Int32)), (3, .int x5), (0, .ref (X.2.2 83)), (1, .int v1), (2, .int v2)]) dX11_balance_32 (Nat.le_of_ble_eq_true rfl) rfl ?_
      exact gv_sub [3, 4, 5, 2, 1, 0] rfl (t_X11_balance_34 S FU M v1 v2 x5 (-9 : Int32) (0 : Int32) h)
    · refine gv_bipush 17 S (-2 : Int32) dX11_balance_17 (by decide) ?_
      exact gv_iret 19 S h dX11_balance_19
  · refine gv_iconst 8 S (-1 : Int32) dX11_balance_8 (by decide) ?_
    exact gv_iret 9 S h dX11_balance_9
theorem mi_X11_reading_11 : ∀ w ∈ u_ws RX11 TX11 39, w ∈ wsX11_reading := by decide +kernel
theorem mf_X11_reading_138 : MF wsX11_reading RX11 138 10 35 := ⟨RX11, TX11, 39, rfl, by decide, mi_X11_reading_11, by decide +kernel⟩
theorem mf_X11_reading_68 : MF wsX11_reading RX11 68 10 36 := ⟨RX11, TX11, 39, rfl, by decide, mi_X11_reading_11, by decide +kernel⟩
theorem mf_X11_reading_71 : MF wsX11_reading RX11 71 10 37 := ⟨RX11, TX11, 39, rfl, by decide, mi_X11_reading_11, by decide +kernel⟩
theorem mf_X11_reading_74 : MF wsX11_reading RX11 74 10 38 := ⟨RX11, TX11, 39, rfl, by decide, mi_X11_reading_11, by decide +kernel⟩
theorem mp_X11_reading_138 : MP wsX11_reading RX11 138 10 35 .int := ⟨RX11, TX11, 39, tyX11, rfl, by decide, mi_X11_reading_11, by decide +kernel, tyX11_ok, nmX11, rfl, by decide +kernel⟩
abbrev rm_X11_reading : Room := { frames := 1, cells := 0, slots := 0, locals := 22 }
set_option maxHeartbeats 4000000 in
set_option maxRecDepth 100000 in
theorem c_X11_reading (l : Launch) (X : GE) (M : MM) (v1 : Int32) (v2 : Int32) (v3 : Int32) (r : Int32) (M' : MM) (h : f_X11_reading M v1 v2 v3 = some (r, M')) : CTi l yX11_reading wsX11_reading rm_X11_reading X [.ref (X.2.2 83), .int v1, .int v2, .int v3] M r M' := by
  refine ct_i (own := RX11) (by decide +kernel) rfl rfl (Nat.le_of_ble_eq_true rfl) (lv0 := [(0, .ref (X.2.2 83)), (1, .int v1), (2, .int v2), (3, .int v3)]) rfl ?_
  intro p e s m args below meth c S
  unfold f_X11_reading at h
  refine gv_aload_n 0 S 0 0 dX11_reading_0 rfl rfl ?_
  refine gv_iload_n 1 S 1 1 dX11_reading_1 rfl rfl ?_
  obtain ⟨r1, hc2, h⟩ := br_some h
  refine gv_cVi 2 S (As := [.int v1]) (rest := []) (c_X11_isBatten l X M v1 r1 hc2) (hO_83 X) rfl (cwV 1 S.1.2.2.2.2 gX11_reading_X11_isBatten rfl rfl rfl (by decide +kernel) ⟨Nat.le_of_ble_eq_true rfl, Nat.le_of_ble_eq_true rfl⟩) rfl rfl (Nat.le_of_ble_eq_true rfl) dX11_reading_2 ?_
  refine gv_if_ne 5 S 10 h dX11_reading_5 (by decide) (fun h => ?_) (fun h => ?_)
  · refine gv_iload_n 10 S 2 2 dX11_reading_10 rfl rfl ?_
    refine gv_iconst 11 S (1 : Int32) dX11_reading_11 (by decide) ?_
    refine gv_bipush 12 S (9 : Int32) dX11_reading_12 (by decide) ?_
    obtain ⟨r3, hc4, h⟩ := br_some h
    refine gv_cSi 14 S (As := [.int v2, .int (1 : Int32), .int (9 : Int32)]) (rest := []) (c_X11_within l X M v2 (1 : Int32) (9 : Int32) r3 hc4) (va_cwS 3 S.1.2.2.2.2 gX11_reading_X11_within rfl rfl rfl (by decide +kernel) ⟨Nat.le_of_ble_eq_true rfl, Nat.le_of_ble_eq_true rfl⟩) rfl rfl (Nat.le_of_ble_eq_true rfl) dX11_reading_14 ?_
    refine gv_if_eq 17 S 30 h dX11_reading_17 (by decide) (fun h => ?_) (fun h => ?_)
    · refine gv_bipush 30 S (-2 : Int32) dX11_reading_30 (by decide) ?_
      exact gv_iret 32 S h dX11_reading_32
    · refine gv_iload_n 20 S 3 3 dX11_reading_20 rfl rfl ?_
      refine gv_iconst 21 S (0 : Int32) dX11_reading_21 (by decide) ?_
      refine gv_bipush 22 S (81 : Int32) dX11_reading_22 (by decide) ?_
      obtain ⟨r5, hc6, h⟩ := br_some h
      refine gv_cSi 24 S (As := [.int v3, .int (0 : Int32), .int (81 : Int32)]) (rest := []) (c_X11_within l X M v3 (0 : Int32) (81 : Int32) r5 hc6) (va_cwS 3 S.1.2.2.2.2 gX11_reading_X11_within rfl rfl rfl (by decide +kernel) ⟨Nat.le_of_ble_eq_true rfl, Nat.le_of_ble_eq_true rfl⟩) rfl rfl (Nat.le_of_ble_eq_true rfl) dX11_reading_24 ?_
      refine gv_if_ne 27 S 33 h dX11_reading_27 (by decide) (fun h => ?_) (fun h => ?_)
      · refine gv_aload_n 33 S 0 0 dX11_reading_33 rfl rfl ?_
        refine gv_get 34 S (hF_83_readings X) mf_X11_reading_138 dX11_reading_34 ?_
        refine gv_bipush 37 S (8 : Int32) dX11_reading_37 (by decide) ?_
        refine gv_icmp_ne 39 S 45 h dX11_reading_39 (by decide) (fun h => ?_) (fun h => ?_)
        · refine gv_aload_n 45 S 0 0 dX11_reading_45 rfl rfl ?_
          refine gv_get 46 S (hF_83_readWhich X) mf_X11_reading_68 dX11_reading_46 ?_
          refine gv_aload_n 49 S 0 0 dX11_reading_49 rfl rfl ?_
          refine gv_get 50 S (hF_83_readings X) mf_X11_reading_138 dX11_reading_50 ?_
          refine gv_iload_n 53 S 1 1 dX11_reading_53 rfl rfl ?_
          refine gv_iast 54 S h (hI_103 X) dX11_reading_54 (fun M7 h => ?_)
          refine gv_aload_n 55 S 0 0 dX11_reading_55 rfl rfl ?_
          refine gv_get 56 S (hF_83_readBy X) mf_X11_reading_71 dX11_reading_56 ?_
          refine gv_aload_n 59 S 0 0 dX11_reading_59 rfl rfl ?_
          refine gv_get 60 S (hF_83_readings X) mf_X11_reading_138 dX11_reading_60 ?_
          refine gv_iload_n 63 S 2 2 dX11_reading_63 rfl rfl ?_
          refine gv_iast 64 S h (hI_104 X) dX11_reading_64 (fun M8 h => ?_)
          refine gv_aload_n 65 S 0 0 dX11_reading_65 rfl rfl ?_
          refine gv_get 66 S (hF_83_readEffort X) mf_X11_reading_74 dX11_reading_66 ?_
          refine gv_aload_n 69 S 0 0 dX11_reading_69 rfl rfl ?_
          refine gv_get 70 S (hF_83_readings X) mf_X11_reading_138 dX11_reading_70 ?_
          refine gv_iload_n 73 S 3 3 dX11_reading_73 rfl rfl ?_
          refine gv_iast 74 S h (hI_105 X) dX11_reading_74 (fun M9 h => ?_)
          refine gv_aload_n 75 S 0 0 dX11_reading_75 rfl rfl ?_
          refine gv_dup 76 S dX11_reading_76 rfl ?_
          refine gv_get 77 S (hF_83_readings X) mf_X11_reading_138 dX11_reading_77 ?_
          refine gv_iconst 80 S (1 : Int32) dX11_reading_80 (by decide) ?_
          refine gv_iadd 81 S dX11_reading_81 ?_
          refine gv_put 82 S h (hP_83_readings X) mp_X11_reading_138 rfl rfl dX11_reading_82 (fun M10 h => ?_)
          refine gv_aload_n 85 S 0 0 dX11_reading_85 rfl rfl ?_
          refine gv_get 86 S (hF_83_readings X) mf_X11_reading_138 dX11_reading_86 ?_
          refine gv_iconst 89 S (1 : Int32) dX11_reading_89 (by decide) ?_
          refine gv_isub 90 S dX11_reading_90 ?_
          exact gv_iret 91 S h dX11_reading_91
        · refine gv_bipush 42 S (-4 : Int32) dX11_reading_42 (by decide) ?_
          exact gv_iret 44 S h dX11_reading_44
      · refine gv_bipush 30 S (-2 : Int32) dX11_reading_30 (by decide) ?_
        exact gv_iret 32 S h dX11_reading_32
  · refine gv_iconst 8 S (-1 : Int32) dX11_reading_8 (by decide) ?_
    exact gv_iret 9 S h dX11_reading_9
theorem mi_X11_back_11 : ∀ w ∈ u_ws RX11 TX11 39, w ∈ wsX11_back := by decide +kernel
theorem mf_X11_back_138 : MF wsX11_back RX11 138 10 35 := ⟨RX11, TX11, 39, rfl, by decide, mi_X11_back_11, by decide +kernel⟩
theorem mp_X11_back_138 : MP wsX11_back RX11 138 10 35 .int := ⟨RX11, TX11, 39, tyX11, rfl, by decide, mi_X11_back_11, by decide +kernel, tyX11_ok, nmX11, rfl, by decide +kernel⟩
abbrev rm_X11_back : Room := { frames := 1, cells := 0, slots := 0, locals := 22 }
set_option maxHeartbeats 4000000 in
set_option maxRecDepth 100000 in
theorem c_X11_back (l : Launch) (X : GE) (M : MM) (v1 : Int32) (r : Int32) (M' : MM) (h : f_X11_back M v1 = some (r, M')) : CTi l yX11_back wsX11_back rm_X11_back X [.ref (X.2.2 83), .int v1] M r M' := by
  refine ct_i (own := RX11) (by decide +kernel) rfl rfl (Nat.le_of_ble_eq_true rfl) (lv0 := [(0, .ref (X.2.2 83)), (1, .int v1)]) rfl ?_
  intro p e s m args below meth c S
  unfold f_X11_back at h
  refine gv_iload_n 0 S 1 1 dX11_back_0 rfl rfl ?_
  refine gv_iconst 1 S (0 : Int32) dX11_back_1 (by decide) ?_
  refine gv_aload_n 2 S 0 0 dX11_back_2 rfl rfl ?_
  refine gv_get 3 S (hF_83_readings X) mf_X11_back_138 dX11_back_3 ?_
  obtain ⟨r1, hc2, h⟩ := br_some h
  refine gv_cSi 6 S (As := [.int v1, .int (0 : Int32), .int (M 83 35)]) (rest := []) (c_X11_within l X M v1 (0 : Int32) (M 83 35) r1 hc2) (va_cwS 3 S.1.2.2.2.2 gX11_back_X11_within rfl rfl rfl (by decide +kernel) ⟨Nat.le_of_ble_eq_true rfl, Nat.le_of_ble_eq_true rfl⟩) rfl rfl (Nat.le_of_ble_eq_true rfl) dX11_back_6 ?_
  refine gv_if_ne 9 S 15 h dX11_back_9 (by decide) (fun h => ?_) (fun h => ?_)
  · refine gv_aload_n 15 S 0 0 dX11_back_15 rfl rfl ?_
    refine gv_dup 16 S dX11_back_16 rfl ?_
    refine gv_get 17 S (hF_83_readings X) mf_X11_back_138 dX11_back_17 ?_
    refine gv_iload_n 20 S 1 1 dX11_back_20 rfl rfl ?_
    refine gv_isub 21 S dX11_back_21 ?_
    refine gv_put 22 S h (hP_83_readings X) mp_X11_back_138 rfl rfl dX11_back_22 (fun M3 h => ?_)
    refine gv_aload_n 25 S 0 0 dX11_back_25 rfl rfl ?_
    refine gv_get 26 S (hF_83_readings X) mf_X11_back_138 dX11_back_26 ?_
    exact gv_iret 29 S h dX11_back_29
  · refine gv_bipush 12 S (-2 : Int32) dX11_back_12 (by decide) ?_
    exact gv_iret 14 S h dX11_back_14
theorem mi_X11_areSo_11 : ∀ w ∈ u_ws RX11 TX11 39, w ∈ wsX11_areSo := by decide +kernel
theorem mf_X11_areSo_138 : MF wsX11_areSo RX11 138 10 35 := ⟨RX11, TX11, 39, rfl, by decide, mi_X11_areSo_11, by decide +kernel⟩
theorem mf_X11_areSo_68 : MF wsX11_areSo RX11 68 10 36 := ⟨RX11, TX11, 39, rfl, by decide, mi_X11_areSo_11, by decide +kernel⟩
theorem mf_X11_areSo_71 : MF wsX11_areSo RX11 71 10 37 := ⟨RX11, TX11, 39, rfl, by decide, mi_X11_areSo_11, by decide +kernel⟩
theorem mf_X11_areSo_74 : MF wsX11_areSo RX11 74 10 38 := ⟨RX11, TX11, 39, rfl, by decide, mi_X11_areSo_11, by decide +kernel⟩
abbrev rm_X11_areSo : Room := { frames := 1, cells := 0, slots := 0, locals := 22 }
set_option maxHeartbeats 4000000 in
set_option maxRecDepth 100000 in
theorem t_X11_areSo_2 {p : Program} {l : Launch} {e : Env} {s : State} {m : MethodId} {args : Array Value} {below : List Frame} {meth : Method} {c : Code} {X : GE} {M : MM} {r : Int32} (S : CX p s m args meth c cX11_areSo 2 wsX11_areSo RX11 (some .boolean) X) : ∀ (n : Nat) (v1 : Int32) (h : g_X11_areSo_2 M n v1 = some r), V p l e (headSpec wsX11_areSo rm_X11_areSo).room s m args below meth c 2 X (MQ below (gQi X r M) args s 0 0 (gA X)) M 2 [(0, .ref (X.2.2 83)), (1, .int v1)] [] := by
  intro n
  induction n with
  | zero =>
    intro v1 h
    rw [g_X11_areSo_2] at h
    cases h
  | succ n ih =>
    intro v1 h
    rw [g_X11_areSo_2] at h
    refine gv_iload_n 2 S 1 1 dX11_areSo_2 rfl rfl ?_
    refine gv_aload_n 3 S 0 0 dX11_areSo_3 rfl rfl ?_
    refine gv_get 4 S (hF_83_readings X) mf_X11_areSo_138 dX11_areSo_4 ?_
    refine gv_icmp_ge 7 S 44 h dX11_areSo_7 (by decide) (fun h => ?_) (fun h => ?_)
    · refine gv_iconst 44 S (1 : Int32) dX11_areSo_44 (by decide) ?_
      exact gv_zretR 45 S h rfl dX11_areSo_45
    · refine gv_aload_n 10 S 0 0 dX11_areSo_10 rfl rfl ?_
      refine gv_aload_n 11 S 0 0 dX11_areSo_11 rfl rfl ?_
      refine gv_get 12 S (hF_83_readWhich X) mf_X11_areSo_68 dX11_areSo_12 ?_
      refine gv_iload_n 15 S 1 1 dX11_areSo_15 rfl rfl ?_
      refine gv_iald 16 S h (hI_103 X) dX11_areSo_16 (fun h => ?_)
      obtain ⟨r1, hc2, h⟩ := br_some h
      refine gv_cVi 17 S (As := [.int (M 103 v1.toNatClampNeg)]) (rest := []) (c_X11_pullOf l X M (M 103 v1.toNatClampNeg) r1 hc2) (hO_83 X) rfl (cwV 1 S.1.2.2.2.2 gX11_areSo_X11_pullOf rfl rfl rfl (by decide +kernel) ⟨Nat.le_of_ble_eq_true rfl, Nat.le_of_ble_eq_true rfl⟩) rfl rfl (Nat.le_of_ble_eq_true rfl) dX11_areSo_17 ?_
      refine gv_aload_n 20 S 0 0 dX11_areSo_20 rfl rfl ?_
      refine gv_get 21 S (hF_83_readBy X) mf_X11_areSo_71 dX11_areSo_21 ?_
      refine gv_iload_n 24 S 1 1 dX11_areSo_24 rfl rfl ?_
      refine gv_iald 25 S h (hI_104 X) dX11_areSo_25 (fun h => ?_)
      refine gv_imul 26 S dX11_areSo_26 ?_
      refine gv_aload_n 27 S 0 0 dX11_areSo_27 rfl rfl ?_
      refine gv_get 28 S (hF_83_readEffort X) mf_X11_areSo_74 dX11_areSo_28 ?_
      refine gv_iload_n 31 S 1 1 dX11_areSo_31 rfl rfl ?_
      refine gv_iald 32 S h (hI_105 X) dX11_areSo_32 (fun h => ?_)
      refine gv_icmp_eq 33 S 38 h dX11_areSo_33 (by decide) (fun h => ?_) (fun h => ?_)
      · refine gv_iinc 38 S 1 (v1 + (1 : Int32)) (lv' := [(1, .int (v1 + (1 : Int32))), (0, .ref (X.2.2 83))]) dX11_areSo_38 rfl rfl (Nat.le_of_ble_eq_true rfl) rfl ?_
        refine gv_goto 41 S 2 dX11_areSo_41 (by decide) ?_
        exact gv_sub [1, 0] rfl (ih (v1 + (1 : Int32)) h)
      · refine gv_iconst 36 S (0 : Int32) dX11_areSo_36 (by decide) ?_
        exact gv_zretR 37 S h rfl dX11_areSo_37
set_option maxHeartbeats 4000000 in
set_option maxRecDepth 100000 in
theorem c_X11_areSo (l : Launch) (X : GE) (M : MM) (r : Int32) (h : f_X11_areSo M = some r) : CTi l yX11_areSo wsX11_areSo rm_X11_areSo X [.ref (X.2.2 83)] M r M := by
  refine ct_i (own := RX11) (by decide +kernel) rfl rfl (Nat.le_of_ble_eq_true rfl) (lv0 := [(0, .ref (X.2.2 83))]) rfl ?_
  intro p e s m args below meth c S
  unfold f_X11_areSo at h
  refine gv_iconst 0 S (0 : Int32) dX11_areSo_0 (by decide) ?_
  refine gv_istore_n 1 S 1 (lv' := [(1, .int (0 : Int32)), (0, .ref (X.2.2 83))]) dX11_areSo_1 rfl (Nat.le_of_ble_eq_true rfl) rfl ?_
  exact gv_sub [1, 0] rfl (t_X11_areSo_2 S FU (0 : Int32) h)
theorem mi_X11_loads_11 : ∀ w ∈ u_ws RX11 TX11 39, w ∈ wsX11_loads := by decide +kernel
theorem mf_X11_loads_22 : MF wsX11_loads RX11 22 10 10 := ⟨RX11, TX11, 39, rfl, by decide, mi_X11_loads_11, by decide +kernel⟩
abbrev rm_X11_loads : Room := { frames := 2, cells := 0, slots := 0, locals := 43 }
set_option maxHeartbeats 4000000 in
set_option maxRecDepth 100000 in
theorem t_X11_loads_22 {p : Program} {l : Launch} {e : Env} {s : State} {m : MethodId} {args : Array Value} {below : List Frame} {meth : Method} {c : Code} {X : GE} {r : Int32} {M' : MM} (S : CX p s m args meth c cX11_loads 5 wsX11_loads RX11 (some .int) X) : ∀ (n : Nat) (M : MM) (v1 : Int32) (v2 : Int32) (v3 : Int32) (v4 : Int32) (h : g_X11_loads_22 n M v1 v2 v3 v4 = some (r, M')), V p l e (headSpec wsX11_loads rm_X11_loads).room s m args below meth c 5 X (MQ below (gQi X r M') args s 0 0 (gA X)) M 22 [(0, .ref (X.2.2 83)), (1, .int v1), (2, .int v2), (3, .int v3), (4, .int v4)] [] := by
  intro n
  induction n with
  | zero =>
    intro M v1 v2 v3 v4 h
    rw [g_X11_loads_22] at h
    cases h
  | succ n ih =>
    intro M v1 v2 v3 v4 h
    rw [g_X11_loads_22] at h
    refine gv_iload 22 S 4 dX11_loads_22 rfl ?_
    refine gv_bipush 24 S (9 : Int32) dX11_loads_24 (by decide) ?_
    refine gv_icmp_gt 26 S 61 h dX11_loads_26 (by decide) (fun h => ?_) (fun h => ?_)
    · refine gv_aload_n 61 S 0 0 dX11_loads_61 rfl rfl ?_
      refine gv_get 62 S (hF_83_load X) mf_X11_loads_22 dX11_loads_62 ?_
      refine gv_iload_n 65 S 1 1 dX11_loads_65 rfl rfl ?_
      refine gv_iload_n 66 S 2 2 dX11_loads_66 rfl rfl ?_
      refine gv_iast 67 S h (hI_88 X) dX11_loads_67 (fun M4 h => ?_)
      refine gv_iload_n 68 S 3 3 dX11_loads_68 rfl rfl ?_
      exact gv_iret 69 S h dX11_loads_69
    · refine gv_aload_n 29 S 0 0 dX11_loads_29 rfl rfl ?_
      refine gv_get 30 S (hF_83_load X) mf_X11_loads_22 dX11_loads_30 ?_
      refine gv_iload_n 33 S 1 1 dX11_loads_33 rfl rfl ?_
      refine gv_iload 34 S 4 dX11_loads_34 rfl ?_
      refine gv_iast 36 S h (hI_88 X) dX11_loads_36 (fun M5 h => ?_)
      refine gv_iload_n 37 S 3 3 dX11_loads_37 rfl rfl ?_
      refine gv_aload_n 38 S 0 0 dX11_loads_38 rfl rfl ?_
      obtain ⟨r6, hc7, h⟩ := br_some h
      refine gv_cVi 39 S (As := []) (rest := [.int v3]) (c_X11_areSo l X M5 r6 hc7) (hO_83 X) rfl (cwV 0 S.1.2.2.2.2 gX11_loads_X11_areSo rfl rfl rfl (by decide +kernel) ⟨Nat.le_of_ble_eq_true rfl, Nat.le_of_ble_eq_true rfl⟩) rfl rfl (Nat.le_of_ble_eq_true rfl) dX11_loads_39 ?_
      refine gv_if_eq 42 S 52 h dX11_loads_42 (by decide) (fun h => ?_) (fun h => ?_)
      · refine gv_iconst 52 S (0 : Int32) dX11_loads_52 (by decide) ?_
        refine gv_ior 53 S dX11_loads_53 ?_
        refine gv_nmi h (fun x8 h => ?_)
        refine gv_istore_n 54 S 3 (lv' := [(3, .int x8), (0, .ref (X.2.2 83)), (1, .int v1), (2, .int v2), (4, .int v4)]) dX11_loads_54 rfl (Nat.le_of_ble_eq_true rfl) rfl ?_
        refine gv_iinc 55 S 4 (v4 + (1 : Int32)) (lv' := [(4, .int (v4 + (1 : Int32))), (3, .int x8), (0, .ref (X.2.2 83)), (1, .int v1), (2, .int v2)]) dX11_loads_55 rfl rfl (Nat.le_of_ble_eq_true rfl) rfl ?_
        refine gv_goto 58 S 22 dX11_loads_58 (by decide) ?_
        exact gv_sub [2, 3, 4, 1, 0] rfl (ih M5 v1 v2 x8 (v4 + (1 : Int32)) h)
      · refine gv_iconst 45 S (1 : Int32) dX11_loads_45 (by decide) ?_
        refine gv_iload 46 S 4 dX11_loads_46 rfl ?_
        refine gv_ishl 48 S dX11_loads_48 ?_
        refine gv_goto 49 S 53 dX11_loads_49 (by decide) ?_
        refine gv_ior 53 S dX11_loads_53 ?_
        refine gv_nmi h (fun x9 h => ?_)
        refine gv_istore_n 54 S 3 (lv' := [(3, .int x9), (0, .ref (X.2.2 83)), (1, .int v1), (2, .int v2), (4, .int v4)]) dX11_loads_54 rfl (Nat.le_of_ble_eq_true rfl) rfl ?_
        refine gv_iinc 55 S 4 (v4 + (1 : Int32)) (lv' := [(4, .int (v4 + (1 : Int32))), (3, .int x9), (0, .ref (X.2.2 83)), (1, .int v1), (2, .int v2)]) dX11_loads_55 rfl rfl (Nat.le_of_ble_eq_true rfl) rfl ?_
        refine gv_goto 58 S 22 dX11_loads_58 (by decide) ?_
        exact gv_sub [2, 3, 4, 1, 0] rfl (ih M5 v1 v2 x9 (v4 + (1 : Int32)) h)
set_option maxHeartbeats 4000000 in
set_option maxRecDepth 100000 in
theorem c_X11_loads (l : Launch) (X : GE) (M : MM) (v1 : Int32) (r : Int32) (M' : MM) (h : f_X11_loads M v1 = some (r, M')) : CTi l yX11_loads wsX11_loads rm_X11_loads X [.ref (X.2.2 83), .int v1] M r M' := by
  refine ct_i (own := RX11) (by decide +kernel) rfl rfl (Nat.le_of_ble_eq_true rfl) (lv0 := [(0, .ref (X.2.2 83)), (1, .int v1)]) rfl ?_
  intro p e s m args below meth c S
  unfold f_X11_loads at h
  refine gv_aload_n 0 S 0 0 dX11_loads_0 rfl rfl ?_
  refine gv_iload_n 1 S 1 1 dX11_loads_1 rfl rfl ?_
  obtain ⟨r1, hc2, h⟩ := br_some h
  refine gv_cVi 2 S (As := [.int v1]) (rest := []) (c_X11_isBatten l X M v1 r1 hc2) (hO_83 X) rfl (cwV 1 S.1.2.2.2.2 gX11_loads_X11_isBatten rfl rfl rfl (by decide +kernel) ⟨Nat.le_of_ble_eq_true rfl, Nat.le_of_ble_eq_true rfl⟩) rfl rfl (Nat.le_of_ble_eq_true rfl) dX11_loads_2 ?_
  refine gv_if_ne 5 S 10 h dX11_loads_5 (by decide) (fun h => ?_) (fun h => ?_)
  · refine gv_aload_n 10 S 0 0 dX11_loads_10 rfl rfl ?_
    refine gv_get 11 S (hF_83_load X) mf_X11_loads_22 dX11_loads_11 ?_
    refine gv_iload_n 14 S 1 1 dX11_loads_14 rfl rfl ?_
    refine gv_iald 15 S h (hI_88 X) dX11_loads_15 (fun h => ?_)
    refine gv_nmi h (fun x3 h => ?_)
    refine gv_istore_n 16 S 2 (lv' := [(2, .int x3), (0, .ref (X.2.2 83)), (1, .int v1)]) dX11_loads_16 rfl (Nat.le_of_ble_eq_true rfl) rfl ?_
    refine gv_iconst 17 S (0 : Int32) dX11_loads_17 (by decide) ?_
    refine gv_istore_n 18 S 3 (lv' := [(3, .int (0 : Int32)), (2, .int x3), (0, .ref (X.2.2 83)), (1, .int v1)]) dX11_loads_18 rfl (Nat.le_of_ble_eq_true rfl) rfl ?_
    refine gv_iconst 19 S (0 : Int32) dX11_loads_19 (by decide) ?_
    refine gv_istore 20 S (lv' := [(4, .int (0 : Int32)), (3, .int (0 : Int32)), (2, .int x3), (0, .ref (X.2.2 83)), (1, .int v1)]) dX11_loads_20 (Nat.le_of_ble_eq_true rfl) rfl ?_
    exact gv_sub [3, 4, 2, 1, 0] rfl (t_X11_loads_22 S FU M v1 x3 (0 : Int32) (0 : Int32) h)
  · refine gv_iconst 8 S (-1 : Int32) dX11_loads_8 (by decide) ?_
    exact gv_iret 9 S h dX11_loads_9
theorem mi_X11_weights_11 : ∀ w ∈ u_ws RX11 TX11 39, w ∈ wsX11_weights := by decide +kernel
theorem mf_X11_weights_25 : MF wsX11_weights RX11 25 10 11 := ⟨RX11, TX11, 39, rfl, by decide, mi_X11_weights_11, by decide +kernel⟩
abbrev rm_X11_weights : Room := { frames := 2, cells := 0, slots := 0, locals := 43 }
set_option maxHeartbeats 4000000 in
set_option maxRecDepth 100000 in
theorem t_X11_weights_22 {p : Program} {l : Launch} {e : Env} {s : State} {m : MethodId} {args : Array Value} {below : List Frame} {meth : Method} {c : Code} {X : GE} {r : Int32} {M' : MM} (S : CX p s m args meth c cX11_weights 5 wsX11_weights RX11 (some .int) X) : ∀ (n : Nat) (M : MM) (v1 : Int32) (v2 : Int32) (v3 : Int32) (v4 : Int32) (h : g_X11_weights_22 n M v1 v2 v3 v4 = some (r, M')), V p l e (headSpec wsX11_weights rm_X11_weights).room s m args below meth c 5 X (MQ below (gQi X r M') args s 0 0 (gA X)) M 22 [(0, .ref (X.2.2 83)), (1, .int v1), (2, .int v2), (3, .int v3), (4, .int v4)] [] := by
  intro n
  induction n with
  | zero =>
    intro M v1 v2 v3 v4 h
    rw [g_X11_weights_22] at h
    cases h
  | succ n ih =>
    intro M v1 v2 v3 v4 h
    rw [g_X11_weights_22] at h
    refine gv_iload 22 S 4 dX11_weights_22 rfl ?_
    refine gv_bipush 24 S (9 : Int32) dX11_weights_24 (by decide) ?_
    refine gv_icmp_gt 26 S 61 h dX11_weights_26 (by decide) (fun h => ?_) (fun h => ?_)
    · refine gv_aload_n 61 S 0 0 dX11_weights_61 rfl rfl ?_
      refine gv_get 62 S (hF_83_bricks X) mf_X11_weights_25 dX11_weights_62 ?_
      refine gv_iload_n 65 S 1 1 dX11_weights_65 rfl rfl ?_
      refine gv_iload_n 66 S 2 2 dX11_weights_66 rfl rfl ?_
      refine gv_iast 67 S h (hI_89 X) dX11_weights_67 (fun M4 h => ?_)
      refine gv_iload_n 68 S 3 3 dX11_weights_68 rfl rfl ?_
      exact gv_iret 69 S h dX11_weights_69
    · refine gv_aload_n 29 S 0 0 dX11_weights_29 rfl rfl ?_
      refine gv_get 30 S (hF_83_bricks X) mf_X11_weights_25 dX11_weights_30 ?_
      refine gv_iload_n 33 S 1 1 dX11_weights_33 rfl rfl ?_
      refine gv_iload 34 S 4 dX11_weights_34 rfl ?_
      refine gv_iast 36 S h (hI_89 X) dX11_weights_36 (fun M5 h => ?_)
      refine gv_iload_n 37 S 3 3 dX11_weights_37 rfl rfl ?_
      refine gv_aload_n 38 S 0 0 dX11_weights_38 rfl rfl ?_
      obtain ⟨r6, hc7, h⟩ := br_some h
      refine gv_cVi 39 S (As := []) (rest := [.int v3]) (c_X11_areSo l X M5 r6 hc7) (hO_83 X) rfl (cwV 0 S.1.2.2.2.2 gX11_weights_X11_areSo rfl rfl rfl (by decide +kernel) ⟨Nat.le_of_ble_eq_true rfl, Nat.le_of_ble_eq_true rfl⟩) rfl rfl (Nat.le_of_ble_eq_true rfl) dX11_weights_39 ?_
      refine gv_if_eq 42 S 52 h dX11_weights_42 (by decide) (fun h => ?_) (fun h => ?_)
      · refine gv_iconst 52 S (0 : Int32) dX11_weights_52 (by decide) ?_
        refine gv_ior 53 S dX11_weights_53 ?_
        refine gv_nmi h (fun x8 h => ?_)
        refine gv_istore_n 54 S 3 (lv' := [(3, .int x8), (0, .ref (X.2.2 83)), (1, .int v1), (2, .int v2), (4, .int v4)]) dX11_weights_54 rfl (Nat.le_of_ble_eq_true rfl) rfl ?_
        refine gv_iinc 55 S 4 (v4 + (1 : Int32)) (lv' := [(4, .int (v4 + (1 : Int32))), (3, .int x8), (0, .ref (X.2.2 83)), (1, .int v1), (2, .int v2)]) dX11_weights_55 rfl rfl (Nat.le_of_ble_eq_true rfl) rfl ?_
        refine gv_goto 58 S 22 dX11_weights_58 (by decide) ?_
        exact gv_sub [2, 3, 4, 1, 0] rfl (ih M5 v1 v2 x8 (v4 + (1 : Int32)) h)
      · refine gv_iconst 45 S (1 : Int32) dX11_weights_45 (by decide) ?_
        refine gv_iload 46 S 4 dX11_weights_46 rfl ?_
        refine gv_ishl 48 S dX11_weights_48 ?_
        refine gv_goto 49 S 53 dX11_weights_49 (by decide) ?_
        refine gv_ior 53 S dX11_weights_53 ?_
        refine gv_nmi h (fun x9 h => ?_)
        refine gv_istore_n 54 S 3 (lv' := [(3, .int x9), (0, .ref (X.2.2 83)), (1, .int v1), (2, .int v2), (4, .int v4)]) dX11_weights_54 rfl (Nat.le_of_ble_eq_true rfl) rfl ?_
        refine gv_iinc 55 S 4 (v4 + (1 : Int32)) (lv' := [(4, .int (v4 + (1 : Int32))), (3, .int x9), (0, .ref (X.2.2 83)), (1, .int v1), (2, .int v2)]) dX11_weights_55 rfl rfl (Nat.le_of_ble_eq_true rfl) rfl ?_
        refine gv_goto 58 S 22 dX11_weights_58 (by decide) ?_
        exact gv_sub [2, 3, 4, 1, 0] rfl (ih M5 v1 v2 x9 (v4 + (1 : Int32)) h)
set_option maxHeartbeats 4000000 in
set_option maxRecDepth 100000 in
theorem c_X11_weights (l : Launch) (X : GE) (M : MM) (v1 : Int32) (r : Int32) (M' : MM) (h : f_X11_weights M v1 = some (r, M')) : CTi l yX11_weights wsX11_weights rm_X11_weights X [.ref (X.2.2 83), .int v1] M r M' := by
  refine ct_i (own := RX11) (by decide +kernel) rfl rfl (Nat.le_of_ble_eq_true rfl) (lv0 := [(0, .ref (X.2.2 83)), (1, .int v1)]) rfl ?_
  intro p e s m args below meth c S
  unfold f_X11_weights at h
  refine gv_aload_n 0 S 0 0 dX11_weights_0 rfl rfl ?_
  refine gv_iload_n 1 S 1 1 dX11_weights_1 rfl rfl ?_
  obtain ⟨r1, hc2, h⟩ := br_some h
  refine gv_cVi 2 S (As := [.int v1]) (rest := []) (c_X11_isBatten l X M v1 r1 hc2) (hO_83 X) rfl (cwV 1 S.1.2.2.2.2 gX11_weights_X11_isBatten rfl rfl rfl (by decide +kernel) ⟨Nat.le_of_ble_eq_true rfl, Nat.le_of_ble_eq_true rfl⟩) rfl rfl (Nat.le_of_ble_eq_true rfl) dX11_weights_2 ?_
  refine gv_if_ne 5 S 10 h dX11_weights_5 (by decide) (fun h => ?_) (fun h => ?_)
  · refine gv_aload_n 10 S 0 0 dX11_weights_10 rfl rfl ?_
    refine gv_get 11 S (hF_83_bricks X) mf_X11_weights_25 dX11_weights_11 ?_
    refine gv_iload_n 14 S 1 1 dX11_weights_14 rfl rfl ?_
    refine gv_iald 15 S h (hI_89 X) dX11_weights_15 (fun h => ?_)
    refine gv_nmi h (fun x3 h => ?_)
    refine gv_istore_n 16 S 2 (lv' := [(2, .int x3), (0, .ref (X.2.2 83)), (1, .int v1)]) dX11_weights_16 rfl (Nat.le_of_ble_eq_true rfl) rfl ?_
    refine gv_iconst 17 S (0 : Int32) dX11_weights_17 (by decide) ?_
    refine gv_istore_n 18 S 3 (lv' := [(3, .int (0 : Int32)), (2, .int x3), (0, .ref (X.2.2 83)), (1, .int v1)]) dX11_weights_18 rfl (Nat.le_of_ble_eq_true rfl) rfl ?_
    refine gv_iconst 19 S (0 : Int32) dX11_weights_19 (by decide) ?_
    refine gv_istore 20 S (lv' := [(4, .int (0 : Int32)), (3, .int (0 : Int32)), (2, .int x3), (0, .ref (X.2.2 83)), (1, .int v1)]) dX11_weights_20 (Nat.le_of_ble_eq_true rfl) rfl ?_
    exact gv_sub [3, 4, 2, 1, 0] rfl (t_X11_weights_22 S FU M v1 x3 (0 : Int32) (0 : Int32) h)
  · refine gv_iconst 8 S (-1 : Int32) dX11_weights_8 (by decide) ?_
    exact gv_iret 9 S h dX11_weights_9
theorem mi_X11_kinds_11 : ∀ w ∈ u_ws RX11 TX11 39, w ∈ wsX11_kinds := by decide +kernel
theorem mf_X11_kinds_19 : MF wsX11_kinds RX11 19 10 9 := ⟨RX11, TX11, 39, rfl, by decide, mi_X11_kinds_11, by decide +kernel⟩
abbrev rm_X11_kinds : Room := { frames := 2, cells := 0, slots := 0, locals := 43 }
set_option maxHeartbeats 4000000 in
set_option maxRecDepth 100000 in
theorem t_X11_kinds_22 {p : Program} {l : Launch} {e : Env} {s : State} {m : MethodId} {args : Array Value} {below : List Frame} {meth : Method} {c : Code} {X : GE} {r : Int32} {M' : MM} (S : CX p s m args meth c cX11_kinds 5 wsX11_kinds RX11 (some .int) X) : ∀ (n : Nat) (M : MM) (v1 : Int32) (v2 : Int32) (v3 : Int32) (v4 : Int32) (h : g_X11_kinds_22 n M v1 v2 v3 v4 = some (r, M')), V p l e (headSpec wsX11_kinds rm_X11_kinds).room s m args below meth c 5 X (MQ below (gQi X r M') args s 0 0 (gA X)) M 22 [(0, .ref (X.2.2 83)), (1, .int v1), (2, .int v2), (3, .int v3), (4, .int v4)] [] := by
  intro n
  induction n with
  | zero =>
    intro M v1 v2 v3 v4 h
    rw [g_X11_kinds_22] at h
    cases h
  | succ n ih =>
    intro M v1 v2 v3 v4 h
    rw [g_X11_kinds_22] at h
    refine gv_iload 22 S 4 dX11_kinds_22 rfl ?_
    refine gv_iconst 24 S (3 : Int32) dX11_kinds_24 (by decide) ?_
    refine gv_icmp_ge 25 S 60 h dX11_kinds_25 (by decide) (fun h => ?_) (fun h => ?_)
    · refine gv_aload_n 60 S 0 0 dX11_kinds_60 rfl rfl ?_
      refine gv_get 61 S (hF_83_kind X) mf_X11_kinds_19 dX11_kinds_61 ?_
      refine gv_iload_n 64 S 1 1 dX11_kinds_64 rfl rfl ?_
      refine gv_iload_n 65 S 2 2 dX11_kinds_65 rfl rfl ?_
      refine gv_iast 66 S h (hI_87 X) dX11_kinds_66 (fun M4 h => ?_)
      refine gv_iload_n 67 S 3 3 dX11_kinds_67 rfl rfl ?_
      exact gv_iret 68 S h dX11_kinds_68
    · refine gv_aload_n 28 S 0 0 dX11_kinds_28 rfl rfl ?_
      refine gv_get 29 S (hF_83_kind X) mf_X11_kinds_19 dX11_kinds_29 ?_
      refine gv_iload_n 32 S 1 1 dX11_kinds_32 rfl rfl ?_
      refine gv_iload 33 S 4 dX11_kinds_33 rfl ?_
      refine gv_iast 35 S h (hI_87 X) dX11_kinds_35 (fun M5 h => ?_)
      refine gv_iload_n 36 S 3 3 dX11_kinds_36 rfl rfl ?_
      refine gv_aload_n 37 S 0 0 dX11_kinds_37 rfl rfl ?_
      obtain ⟨r6, hc7, h⟩ := br_some h
      refine gv_cVi 38 S (As := []) (rest := [.int v3]) (c_X11_areSo l X M5 r6 hc7) (hO_83 X) rfl (cwV 0 S.1.2.2.2.2 gX11_kinds_X11_areSo rfl rfl rfl (by decide +kernel) ⟨Nat.le_of_ble_eq_true rfl, Nat.le_of_ble_eq_true rfl⟩) rfl rfl (Nat.le_of_ble_eq_true rfl) dX11_kinds_38 ?_
      refine gv_if_eq 41 S 51 h dX11_kinds_41 (by decide) (fun h => ?_) (fun h => ?_)
      · refine gv_iconst 51 S (0 : Int32) dX11_kinds_51 (by decide) ?_
        refine gv_ior 52 S dX11_kinds_52 ?_
        refine gv_nmi h (fun x8 h => ?_)
        refine gv_istore_n 53 S 3 (lv' := [(3, .int x8), (0, .ref (X.2.2 83)), (1, .int v1), (2, .int v2), (4, .int v4)]) dX11_kinds_53 rfl (Nat.le_of_ble_eq_true rfl) rfl ?_
        refine gv_iinc 54 S 4 (v4 + (1 : Int32)) (lv' := [(4, .int (v4 + (1 : Int32))), (3, .int x8), (0, .ref (X.2.2 83)), (1, .int v1), (2, .int v2)]) dX11_kinds_54 rfl rfl (Nat.le_of_ble_eq_true rfl) rfl ?_
        refine gv_goto 57 S 22 dX11_kinds_57 (by decide) ?_
        exact gv_sub [2, 3, 4, 1, 0] rfl (ih M5 v1 v2 x8 (v4 + (1 : Int32)) h)
      · refine gv_iconst 44 S (1 : Int32) dX11_kinds_44 (by decide) ?_
        refine gv_iload 45 S 4 dX11_kinds_45 rfl ?_
        refine gv_ishl 47 S dX11_kinds_47 ?_
        refine gv_goto 48 S 52 dX11_kinds_48 (by decide) ?_
        refine gv_ior 52 S dX11_kinds_52 ?_
        refine gv_nmi h (fun x9 h => ?_)
        refine gv_istore_n 53 S 3 (lv' := [(3, .int x9), (0, .ref (X.2.2 83)), (1, .int v1), (2, .int v2), (4, .int v4)]) dX11_kinds_53 rfl (Nat.le_of_ble_eq_true rfl) rfl ?_
        refine gv_iinc 54 S 4 (v4 + (1 : Int32)) (lv' := [(4, .int (v4 + (1 : Int32))), (3, .int x9), (0, .ref (X.2.2 83)), (1, .int v1), (2, .int v2)]) dX11_kinds_54 rfl rfl (Nat.le_of_ble_eq_true rfl) rfl ?_
        refine gv_goto 57 S 22 dX11_kinds_57 (by decide) ?_
        exact gv_sub [2, 3, 4, 1, 0] rfl (ih M5 v1 v2 x9 (v4 + (1 : Int32)) h)
set_option maxHeartbeats 4000000 in
set_option maxRecDepth 100000 in
theorem c_X11_kinds (l : Launch) (X : GE) (M : MM) (v1 : Int32) (r : Int32) (M' : MM) (h : f_X11_kinds M v1 = some (r, M')) : CTi l yX11_kinds wsX11_kinds rm_X11_kinds X [.ref (X.2.2 83), .int v1] M r M' := by
  refine ct_i (own := RX11) (by decide +kernel) rfl rfl (Nat.le_of_ble_eq_true rfl) (lv0 := [(0, .ref (X.2.2 83)), (1, .int v1)]) rfl ?_
  intro p e s m args below meth c S
  unfold f_X11_kinds at h
  refine gv_aload_n 0 S 0 0 dX11_kinds_0 rfl rfl ?_
  refine gv_iload_n 1 S 1 1 dX11_kinds_1 rfl rfl ?_
  obtain ⟨r1, hc2, h⟩ := br_some h
  refine gv_cVi 2 S (As := [.int v1]) (rest := []) (c_X11_isBatten l X M v1 r1 hc2) (hO_83 X) rfl (cwV 1 S.1.2.2.2.2 gX11_kinds_X11_isBatten rfl rfl rfl (by decide +kernel) ⟨Nat.le_of_ble_eq_true rfl, Nat.le_of_ble_eq_true rfl⟩) rfl rfl (Nat.le_of_ble_eq_true rfl) dX11_kinds_2 ?_
  refine gv_if_ne 5 S 10 h dX11_kinds_5 (by decide) (fun h => ?_) (fun h => ?_)
  · refine gv_aload_n 10 S 0 0 dX11_kinds_10 rfl rfl ?_
    refine gv_get 11 S (hF_83_kind X) mf_X11_kinds_19 dX11_kinds_11 ?_
    refine gv_iload_n 14 S 1 1 dX11_kinds_14 rfl rfl ?_
    refine gv_iald 15 S h (hI_87 X) dX11_kinds_15 (fun h => ?_)
    refine gv_nmi h (fun x3 h => ?_)
    refine gv_istore_n 16 S 2 (lv' := [(2, .int x3), (0, .ref (X.2.2 83)), (1, .int v1)]) dX11_kinds_16 rfl (Nat.le_of_ble_eq_true rfl) rfl ?_
    refine gv_iconst 17 S (0 : Int32) dX11_kinds_17 (by decide) ?_
    refine gv_istore_n 18 S 3 (lv' := [(3, .int (0 : Int32)), (2, .int x3), (0, .ref (X.2.2 83)), (1, .int v1)]) dX11_kinds_18 rfl (Nat.le_of_ble_eq_true rfl) rfl ?_
    refine gv_iconst 19 S (0 : Int32) dX11_kinds_19 (by decide) ?_
    refine gv_istore 20 S (lv' := [(4, .int (0 : Int32)), (3, .int (0 : Int32)), (2, .int x3), (0, .ref (X.2.2 83)), (1, .int v1)]) dX11_kinds_20 (Nat.le_of_ble_eq_true rfl) rfl ?_
    exact gv_sub [3, 4, 2, 1, 0] rfl (t_X11_kinds_22 S FU M v1 x3 (0 : Int32) (0 : Int32) h)
  · refine gv_iconst 8 S (-1 : Int32) dX11_kinds_8 (by decide) ?_
    exact gv_iret 9 S h dX11_kinds_9
abbrev rm_X11_inLeastTerms : Room := { frames := 0, cells := 0, slots := 0, locals := 0 }
set_option maxHeartbeats 4000000 in
set_option maxRecDepth 100000 in
theorem t_X11_inLeastTerms_6 {p : Program} {l : Launch} {e : Env} {s : State} {m : MethodId} {args : Array Value} {below : List Frame} {meth : Method} {c : Code} {X : GE} {M : MM} {r : Int64} (S : CX p s m args meth c cX11_inLeastTerms 11 wsX11_inLeastTerms RX11 (some .long) X) : ∀ (n : Nat) (v0 : Int64) (v2 : Int64) (v4 : Int32) (v5 : Int64) (v7 : Int64) (h : g_X11_inLeastTerms_6 M n v0 v2 v4 v5 v7 = some r), V p l e (headSpec wsX11_inLeastTerms rm_X11_inLeastTerms).room s m args below meth c 11 X (MQ below (gQl X r M) args s 0 0 (gA X)) M 6 [(0, .long v0), (2, .long v2), (4, .int v4), (5, .long v5), (7, .long v7)] [] := by
  intro n
  induction n with
  | zero =>
    intro v0 v2 v4 v5 v7 h
    rw [g_X11_inLeastTerms_6] at h
    cases h
  | succ n ih =>
    intro v0 v2 v4 v5 v7 h
    rw [g_X11_inLeastTerms_6] at h
    refine gv_lload 6 S 4 dX11_inLeastTerms_6 rfl ?_
    refine gv_lconst 8 S (0 : Int64) dX11_inLeastTerms_8 (by decide) ?_
    refine gv_lcmp 9 S dX11_inLeastTerms_9 ?_
    refine gv_if_eq 10 S 31 h dX11_inLeastTerms_10 (by decide) (fun h => ?_) (fun h => ?_)
    · refine gv_iload 31 S 2 dX11_inLeastTerms_31 rfl ?_
      refine gv_if_ne 33 S 43 h dX11_inLeastTerms_33 (by decide) (fun h => ?_) (fun h => ?_)
      · refine gv_lload_n 43 S 2 1 dX11_inLeastTerms_43 rfl rfl ?_
        refine gv_lload 44 S 3 dX11_inLeastTerms_44 rfl ?_
        refine gv_ldivG 46 S h dX11_inLeastTerms_46 (fun h => ?_)
        exact gv_lretR 47 S h dX11_inLeastTerms_47
      · refine gv_lload_n 36 S 0 0 dX11_inLeastTerms_36 rfl rfl ?_
        refine gv_lload 37 S 3 dX11_inLeastTerms_37 rfl ?_
        refine gv_ldivG 39 S h dX11_inLeastTerms_39 (fun h => ?_)
        refine gv_goto 40 S 47 dX11_inLeastTerms_40 (by decide) ?_
        exact gv_lretR 47 S h dX11_inLeastTerms_47
    · refine gv_lload 13 S 3 dX11_inLeastTerms_13 rfl ?_
      refine gv_lload 15 S 4 dX11_inLeastTerms_15 rfl ?_
      refine gv_lremG 17 S h dX11_inLeastTerms_17 (fun h => ?_)
      refine gv_lstore 18 S (lv' := [(9, .long (rm64 v5 v7)), (0, .long v0), (2, .long v2), (4, .int v4), (5, .long v5), (7, .long v7)]) dX11_inLeastTerms_18 (Nat.le_of_ble_eq_true rfl) rfl ?_
      refine gv_lload 20 S 5 dX11_inLeastTerms_20 rfl ?_
      refine gv_lstore 22 S (lv' := [(5, .long v7), (9, .long (rm64 v5 v7)), (0, .long v0), (2, .long v2), (4, .int v4), (7, .long v7)]) dX11_inLeastTerms_22 (Nat.le_of_ble_eq_true rfl) rfl ?_
      refine gv_lload 24 S 1 dX11_inLeastTerms_24 rfl ?_
      refine gv_lstore 26 S (lv' := [(7, .long (rm64 v5 v7)), (5, .long v7), (9, .long (rm64 v5 v7)), (0, .long v0), (2, .long v2), (4, .int v4)]) dX11_inLeastTerms_26 (Nat.le_of_ble_eq_true rfl) rfl ?_
      refine gv_goto 28 S 6 dX11_inLeastTerms_28 (by decide) ?_
      exact gv_sub [3, 4, 5, 1, 0] rfl (ih v0 v2 v4 v7 (rm64 v5 v7) h)
set_option maxHeartbeats 4000000 in
set_option maxRecDepth 100000 in
theorem c_X11_inLeastTerms (l : Launch) (X : GE) (M : MM) (v0 : Int64) (v2 : Int64) (v4 : Int32) (r : Int64) (h : f_X11_inLeastTerms M v0 v2 v4 = some r) : CTl l yX11_inLeastTerms wsX11_inLeastTerms rm_X11_inLeastTerms X [.long v0, .long v2, .int v4] M r M := by
  refine ct_l (own := RX11) (by decide +kernel) rfl rfl (Nat.le_of_ble_eq_true rfl) (lv0 := [(0, .long v0), (2, .long v2), (4, .int v4)]) rfl ?_
  intro p e s m args below meth c S
  unfold f_X11_inLeastTerms at h
  refine gv_lload_n 0 S 0 0 dX11_inLeastTerms_0 rfl rfl ?_
  refine gv_lstore 1 S (lv' := [(5, .long v0), (0, .long v0), (2, .long v2), (4, .int v4)]) dX11_inLeastTerms_1 (Nat.le_of_ble_eq_true rfl) rfl ?_
  refine gv_lload_n 3 S 2 2 dX11_inLeastTerms_3 rfl rfl ?_
  refine gv_lstore 4 S (lv' := [(7, .long v2), (5, .long v0), (0, .long v0), (2, .long v2), (4, .int v4)]) dX11_inLeastTerms_4 (Nat.le_of_ble_eq_true rfl) rfl ?_
  exact gv_sub [2, 3, 4, 1, 0] rfl (t_X11_inLeastTerms_6 S FU v0 v2 v4 v0 v2 h)
theorem mi_X11_odds_11 : ∀ w ∈ u_ws RX11 TX11 39, w ∈ wsX11_odds := by decide +kernel
theorem mf_X11_odds_87 : MF wsX11_odds RX11 87 10 5 := ⟨RX11, TX11, 39, rfl, by decide, mi_X11_odds_11, by decide +kernel⟩
theorem mf_X11_odds_28 : MF wsX11_odds RX11 28 10 12 := ⟨RX11, TX11, 39, rfl, by decide, mi_X11_odds_11, by decide +kernel⟩
abbrev rm_X11_odds : Room := { frames := 2, cells := 0, slots := 0, locals := 44 }
set_option maxHeartbeats 4000000 in
set_option maxRecDepth 100000 in
theorem t_X11_odds_44 {p : Program} {l : Launch} {e : Env} {s : State} {m : MethodId} {args : Array Value} {below : List Frame} {meth : Method} {c : Code} {X : GE} {r : Int64} {M' : MM} (S : CX p s m args meth c cX11_odds 6 wsX11_odds RX11 (some .long) X) (rec30 : MM → Int32 → Int32 → Int32 → Int32 → Option (Int64 × MM)) (hrec30 : ∀ (M : MM) (v1 : Int32) (v2 : Int32) (v3 : Int32) (v4 : Int32), rec30 M v1 v2 v3 v4 = some (r, M') → V p l e (headSpec wsX11_odds rm_X11_odds).room s m args below meth c 6 X (MQ below (gQl X r M') args s 0 0 (gA X)) M 30 [(0, .ref (X.2.2 83)), (1, .int v1), (2, .int v2), (3, .int v3), (4, .int v4)] []) : ∀ (n : Nat) (M : MM) (v1 : Int32) (v2 : Int32) (v3 : Int32) (v4 : Int32) (v5 : Int32) (h : g_X11_odds_44 rec30 n M v1 v2 v3 v4 v5 = some (r, M')), V p l e (headSpec wsX11_odds rm_X11_odds).room s m args below meth c 6 X (MQ below (gQl X r M') args s 0 0 (gA X)) M 44 [(0, .ref (X.2.2 83)), (1, .int v1), (2, .int v2), (3, .int v3), (4, .int v4), (5, .int v5)] [] := by
  intro n
  induction n with
  | zero =>
    intro M v1 v2 v3 v4 v5 h
    rw [g_X11_odds_44] at h
    cases h
  | succ n ih =>
    intro M v1 v2 v3 v4 v5 h
    rw [g_X11_odds_44] at h
    refine gv_iload 44 S 5 dX11_odds_44 rfl ?_
    refine gv_aload_n 46 S 0 0 dX11_odds_46 rfl rfl ?_
    refine gv_get 47 S (hF_83_battens X) mf_X11_odds_87 dX11_odds_47 ?_
    refine gv_icmp_ge 50 S 83 h dX11_odds_50 (by decide) (fun h => ?_) (fun h => ?_)
    · refine gv_iload_n 83 S 3 3 dX11_odds_83 rfl rfl ?_
      refine gv_aload_n 84 S 0 0 dX11_odds_84 rfl rfl ?_
      obtain ⟨r13, hc14, h⟩ := br_some h
      refine gv_cVi 85 S (As := []) (rest := [.int v3]) (c_X11_seenNow l X M r13 hc14) (hO_83 X) rfl (cwV 0 S.1.2.2.2.2 gX11_odds_X11_seenNow rfl rfl rfl (by decide +kernel) ⟨Nat.le_of_ble_eq_true rfl, Nat.le_of_ble_eq_true rfl⟩) rfl rfl (Nat.le_of_ble_eq_true rfl) dX11_odds_85 ?_
      refine gv_iload_n 88 S 1 1 dX11_odds_88 rfl rfl ?_
      refine gv_ishr 89 S dX11_odds_89 ?_
      refine gv_iconst 90 S (1 : Int32) dX11_odds_90 (by decide) ?_
      refine gv_iand 91 S dX11_odds_91 ?_
      refine gv_iadd 92 S dX11_odds_92 ?_
      refine gv_nmi h (fun x15 h => ?_)
      refine gv_istore_n 93 S 3 (lv' := [(3, .int x15), (0, .ref (X.2.2 83)), (1, .int v1), (2, .int v2), (4, .int v4), (5, .int v5)]) dX11_odds_93 rfl (Nat.le_of_ble_eq_true rfl) rfl ?_
      refine gv_iinc 94 S 4 (v4 + (1 : Int32)) (lv' := [(4, .int (v4 + (1 : Int32))), (3, .int x15), (0, .ref (X.2.2 83)), (1, .int v1), (2, .int v2), (5, .int v5)]) dX11_odds_94 rfl rfl (Nat.le_of_ble_eq_true rfl) rfl ?_
      refine gv_goto 97 S 30 dX11_odds_97 (by decide) ?_
      exact gv_sub [2, 3, 4, 1, 0] rfl (hrec30 M v1 v2 x15 (v4 + (1 : Int32)) h)
    · refine gv_aload_n 53 S 0 0 dX11_odds_53 rfl rfl ?_
      refine gv_get 54 S (hF_83_height X) mf_X11_odds_28 dX11_odds_54 ?_
      refine gv_iload 57 S 5 dX11_odds_57 rfl ?_
      refine gv_iload 59 S 4 dX11_odds_59 rfl ?_
      refine gv_iload 61 S 5 dX11_odds_61 rfl ?_
      refine gv_ishr 63 S dX11_odds_63 ?_
      refine gv_iconst 64 S (1 : Int32) dX11_odds_64 (by decide) ?_
      refine gv_iand 65 S dX11_odds_65 ?_
      refine gv_iconst 66 S (1 : Int32) dX11_odds_66 (by decide) ?_
      refine gv_icmp_ne 67 S 75 h dX11_odds_67 (by decide) (fun h => ?_) (fun h => ?_)
      · refine gv_iconst 75 S (0 : Int32) dX11_odds_75 (by decide) ?_
        refine gv_iast 76 S h (hI_90 X) dX11_odds_76 (fun M16 h => ?_)
        refine gv_iinc 77 S 5 (v5 + (1 : Int32)) (lv' := [(5, .int (v5 + (1 : Int32))), (0, .ref (X.2.2 83)), (1, .int v1), (2, .int v2), (3, .int v3), (4, .int v4)]) dX11_odds_77 rfl rfl (Nat.le_of_ble_eq_true rfl) rfl ?_
        refine gv_goto 80 S 44 dX11_odds_80 (by decide) ?_
        exact gv_sub [1, 2, 3, 4, 5, 0] rfl (ih M16 v1 v2 v3 v4 (v5 + (1 : Int32)) h)
      · refine gv_bipush 70 S (9 : Int32) dX11_odds_70 (by decide) ?_
        refine gv_goto 72 S 76 dX11_odds_72 (by decide) ?_
        refine gv_iast 76 S h (hI_90 X) dX11_odds_76 (fun M17 h => ?_)
        refine gv_iinc 77 S 5 (v5 + (1 : Int32)) (lv' := [(5, .int (v5 + (1 : Int32))), (0, .ref (X.2.2 83)), (1, .int v1), (2, .int v2), (3, .int v3), (4, .int v4)]) dX11_odds_77 rfl rfl (Nat.le_of_ble_eq_true rfl) rfl ?_
        refine gv_goto 80 S 44 dX11_odds_80 (by decide) ?_
        exact gv_sub [1, 2, 3, 4, 5, 0] rfl (ih M17 v1 v2 v3 v4 (v5 + (1 : Int32)) h)
set_option maxHeartbeats 4000000 in
set_option maxRecDepth 100000 in
theorem t_X11_odds_30 {p : Program} {l : Launch} {e : Env} {s : State} {m : MethodId} {args : Array Value} {below : List Frame} {meth : Method} {c : Code} {X : GE} {r : Int64} {M' : MM} (S : CX p s m args meth c cX11_odds 6 wsX11_odds RX11 (some .long) X) : ∀ (n : Nat) (M : MM) (v1 : Int32) (v2 : Int32) (v3 : Int32) (v4 : Int32) (h : g_X11_odds_30 n M v1 v2 v3 v4 = some (r, M')), V p l e (headSpec wsX11_odds rm_X11_odds).room s m args below meth c 6 X (MQ below (gQl X r M') args s 0 0 (gA X)) M 30 [(0, .ref (X.2.2 83)), (1, .int v1), (2, .int v2), (3, .int v3), (4, .int v4)] [] := by
  intro n
  induction n with
  | zero =>
    intro M v1 v2 v3 v4 h
    rw [g_X11_odds_30] at h
    cases h
  | succ n ih =>
    intro M v1 v2 v3 v4 h
    rw [g_X11_odds_30] at h
    refine gv_iload 30 S 4 dX11_odds_30 rfl ?_
    refine gv_iconst 32 S (1 : Int32) dX11_odds_32 (by decide) ?_
    refine gv_aload_n 33 S 0 0 dX11_odds_33 rfl rfl ?_
    refine gv_get 34 S (hF_83_battens X) mf_X11_odds_87 dX11_odds_34 ?_
    refine gv_ishl 37 S dX11_odds_37 ?_
    refine gv_icmp_ge 38 S 100 h dX11_odds_38 (by decide) (fun h => ?_) (fun h => ?_)
    · refine gv_aload_n 100 S 0 0 dX11_odds_100 rfl rfl ?_
      obtain ⟨M9, hc10, h⟩ := br_some h
      refine gv_cVv 101 S (As := []) (rest := []) (c_X11_putHeights l X M M9 hc10) (hO_83 X) rfl (cwV 0 S.1.2.2.2.2 gX11_odds_X11_putHeights rfl rfl rfl (by decide +kernel) ⟨Nat.le_of_ble_eq_true rfl, Nat.le_of_ble_eq_true rfl⟩) rfl rfl (Nat.le_of_ble_eq_true rfl) dX11_odds_101 ?_
      refine gv_iload_n 104 S 3 3 dX11_odds_104 rfl rfl ?_
      refine gv_i2l 105 S dX11_odds_105 ?_
      refine gv_lconst 106 S (1 : Int64) dX11_odds_106 (by decide) ?_
      refine gv_aload_n 107 S 0 0 dX11_odds_107 rfl rfl ?_
      refine gv_get 108 S (hF_83_battens X) mf_X11_odds_87 dX11_odds_108 ?_
      refine gv_lshl 111 S dX11_odds_111 ?_
      refine gv_iload_n 112 S 2 2 dX11_odds_112 rfl rfl ?_
      obtain ⟨r11, hc12, h⟩ := br_some h
      refine gv_cSl 113 S (As := [.long ((v3).toInt64), .long (sl64 (1 : Int64) (M9 83 5)), .int v2]) (rest := []) (c_X11_inLeastTerms l X M9 ((v3).toInt64) (sl64 (1 : Int64) (M9 83 5)) v2 r11 hc12) (va_cwS 3 S.1.2.2.2.2 gX11_odds_X11_inLeastTerms rfl rfl rfl (by decide +kernel) ⟨Nat.le_of_ble_eq_true rfl, Nat.le_of_ble_eq_true rfl⟩) rfl rfl (Nat.le_of_ble_eq_true rfl) dX11_odds_113 ?_
      exact gv_lret 116 S h dX11_odds_116
    · refine gv_iconst 41 S (0 : Int32) dX11_odds_41 (by decide) ?_
      refine gv_istore 42 S (lv' := [(5, .int (0 : Int32)), (0, .ref (X.2.2 83)), (1, .int v1), (2, .int v2), (3, .int v3), (4, .int v4)]) dX11_odds_42 (Nat.le_of_ble_eq_true rfl) rfl ?_
      exact gv_sub [1, 2, 3, 4, 5, 0] rfl (t_X11_odds_44 S (g_X11_odds_30 n) ih FU M v1 v2 v3 v4 (0 : Int32) h)
set_option maxHeartbeats 4000000 in
set_option maxRecDepth 100000 in
theorem c_X11_odds (l : Launch) (X : GE) (M : MM) (v1 : Int32) (v2 : Int32) (r : Int64) (M' : MM) (h : f_X11_odds M v1 v2 = some (r, M')) : CTl l yX11_odds wsX11_odds rm_X11_odds X [.ref (X.2.2 83), .int v1, .int v2] M r M' := by
  refine ct_l (own := RX11) (by decide +kernel) rfl rfl (Nat.le_of_ble_eq_true rfl) (lv0 := [(0, .ref (X.2.2 83)), (1, .int v1), (2, .int v2)]) rfl ?_
  intro p e s m args below meth c S
  unfold f_X11_odds at h
  refine gv_aload_n 0 S 0 0 dX11_odds_0 rfl rfl ?_
  refine gv_iload_n 1 S 1 1 dX11_odds_1 rfl rfl ?_
  obtain ⟨r1, hc2, h⟩ := br_some h
  refine gv_cVi 2 S (As := [.int v1]) (rest := []) (c_X11_isBatten l X M v1 r1 hc2) (hO_83 X) rfl (cwV 1 S.1.2.2.2.2 gX11_odds_X11_isBatten rfl rfl rfl (by decide +kernel) ⟨Nat.le_of_ble_eq_true rfl, Nat.le_of_ble_eq_true rfl⟩) rfl rfl (Nat.le_of_ble_eq_true rfl) dX11_odds_2 ?_
  refine gv_if_eq 5 S 17 h dX11_odds_5 (by decide) (fun h => ?_) (fun h => ?_)
  · refine gv_ldc2 17 S (v := (-9223372036854775808 : Int64)) (by decide +kernel) dX11_odds_17 ?_
    exact gv_lret 20 S h dX11_odds_20
  · refine gv_iload_n 8 S 2 2 dX11_odds_8 rfl rfl ?_
    refine gv_iconst 9 S (0 : Int32) dX11_odds_9 (by decide) ?_
    refine gv_iconst 10 S (1 : Int32) dX11_odds_10 (by decide) ?_
    obtain ⟨r3, hc4, h⟩ := br_some h
    refine gv_cSi 11 S (As := [.int v2, .int (0 : Int32), .int (1 : Int32)]) (rest := []) (c_X11_within l X M v2 (0 : Int32) (1 : Int32) r3 hc4) (va_cwS 3 S.1.2.2.2.2 gX11_odds_X11_within rfl rfl rfl (by decide +kernel) ⟨Nat.le_of_ble_eq_true rfl, Nat.le_of_ble_eq_true rfl⟩) rfl rfl (Nat.le_of_ble_eq_true rfl) dX11_odds_11 ?_
    refine gv_if_ne 14 S 21 h dX11_odds_14 (by decide) (fun h => ?_) (fun h => ?_)
    · refine gv_aload_n 21 S 0 0 dX11_odds_21 rfl rfl ?_
      obtain ⟨M6, hc7, h⟩ := br_some h
      refine gv_cVv 22 S (As := []) (rest := []) (c_X11_keepHeights l X M M6 hc7) (hO_83 X) rfl (cwV 0 S.1.2.2.2.2 gX11_odds_X11_keepHeights rfl rfl rfl (by decide +kernel) ⟨Nat.le_of_ble_eq_true rfl, Nat.le_of_ble_eq_true rfl⟩) rfl rfl (Nat.le_of_ble_eq_true rfl) dX11_odds_22 ?_
      refine gv_iconst 25 S (0 : Int32) dX11_odds_25 (by decide) ?_
      refine gv_istore_n 26 S 3 (lv' := [(3, .int (0 : Int32)), (0, .ref (X.2.2 83)), (1, .int v1), (2, .int v2)]) dX11_odds_26 rfl (Nat.le_of_ble_eq_true rfl) rfl ?_
      refine gv_iconst 27 S (0 : Int32) dX11_odds_27 (by decide) ?_
      refine gv_istore 28 S (lv' := [(4, .int (0 : Int32)), (3, .int (0 : Int32)), (0, .ref (X.2.2 83)), (1, .int v1), (2, .int v2)]) dX11_odds_28 (Nat.le_of_ble_eq_true rfl) rfl ?_
      exact gv_sub [2, 3, 4, 1, 0] rfl (t_X11_odds_30 S FU M6 v1 v2 (0 : Int32) (0 : Int32) h)
    · refine gv_ldc2 17 S (v := (-9223372036854775808 : Int64)) (by decide +kernel) dX11_odds_17 ?_
      exact gv_lret 20 S h dX11_odds_20
theorem mi_X11_sheet_11 : ∀ w ∈ u_ws RX11 TX11 39, w ∈ wsX11_sheet := by decide +kernel
theorem mp_X11_sheet_77 : MP wsX11_sheet RX11 77 10 0 .int := ⟨RX11, TX11, 39, tyX11, rfl, by decide, mi_X11_sheet_11, by decide +kernel, tyX11_ok, nmX11, rfl, by decide +kernel⟩
theorem mf_X11_sheet_9 : MF wsX11_sheet RX11 9 10 2 := ⟨RX11, TX11, 39, rfl, by decide, mi_X11_sheet_11, by decide +kernel⟩
theorem mf_X11_sheet_13 : MF wsX11_sheet RX11 13 10 3 := ⟨RX11, TX11, 39, rfl, by decide, mi_X11_sheet_11, by decide +kernel⟩
theorem mf_X11_sheet_16 : MF wsX11_sheet RX11 16 10 4 := ⟨RX11, TX11, 39, rfl, by decide, mi_X11_sheet_11, by decide +kernel⟩
abbrev rm_X11_sheet : Room := { frames := 2, cells := 0, slots := 0, locals := 42 }
set_option maxHeartbeats 4000000 in
set_option maxRecDepth 100000 in
theorem t_X11_sheet_57 {p : Program} {l : Launch} {e : Env} {s : State} {m : MethodId} {args : Array Value} {below : List Frame} {meth : Method} {c : Code} {X : GE} {r : Int32} {M' : MM} (S : CX p s m args meth c cX11_sheet 5 wsX11_sheet RX11 (some .int) X) : ∀ (n : Nat) (M : MM) (v1 : Int32) (v4 : Int32) (h : g_X11_sheet_57 n M v1 v4 = some (r, M')), V p l e (headSpec wsX11_sheet rm_X11_sheet).room s m args below meth c 5 X (MQ below (gQi X r M') args s 0 0 (gA X)) M 57 [(0, .ref (X.2.2 83)), (1, .int v1), (4, .int v4)] [] := by
  intro n
  induction n with
  | zero =>
    intro M v1 v4 h
    rw [g_X11_sheet_57] at h
    cases h
  | succ n ih =>
    intro M v1 v4 h
    rw [g_X11_sheet_57] at h
    refine gv_iload 57 S 2 dX11_sheet_57 rfl ?_
    refine gv_bipush 59 S (60 : Int32) dX11_sheet_59 (by decide) ?_
    refine gv_icmp_ge 61 S 83 h dX11_sheet_61 (by decide) (fun h => ?_) (fun h => ?_)
    · refine gv_iconst 83 S (1 : Int32) dX11_sheet_83 (by decide) ?_
      exact gv_iret 84 S h dX11_sheet_84
    · refine gv_aload_n 64 S 0 0 dX11_sheet_64 rfl rfl ?_
      refine gv_get 65 S (hF_83_cells X) mf_X11_sheet_16 dX11_sheet_65 ?_
      refine gv_bipush 68 S (60 : Int32) dX11_sheet_68 (by decide) ?_
      refine gv_iload_n 70 S 1 1 dX11_sheet_70 rfl rfl ?_
      refine gv_imul 71 S dX11_sheet_71 ?_
      refine gv_iload 72 S 2 dX11_sheet_72 rfl ?_
      refine gv_iadd 74 S dX11_sheet_74 ?_
      refine gv_iconst 75 S (0 : Int32) dX11_sheet_75 (by decide) ?_
      refine gv_iast 76 S h (hI_86 X) dX11_sheet_76 (fun M11 h => ?_)
      refine gv_iinc 77 S 2 (v4 + (1 : Int32)) (lv' := [(4, .int (v4 + (1 : Int32))), (0, .ref (X.2.2 83)), (1, .int v1)]) dX11_sheet_77 rfl rfl (Nat.le_of_ble_eq_true rfl) rfl ?_
      refine gv_goto 80 S 57 dX11_sheet_80 (by decide) ?_
      exact gv_sub [1, 2, 0] rfl (ih M11 v1 (v4 + (1 : Int32)) h)
set_option maxHeartbeats 4000000 in
set_option maxRecDepth 100000 in
theorem c_X11_sheet (l : Launch) (X : GE) (M : MM) (v1 : Int32) (v2 : Int32) (v3 : Int32) (r : Int32) (M' : MM) (h : f_X11_sheet M v1 v2 v3 = some (r, M')) : CTi l yX11_sheet wsX11_sheet rm_X11_sheet X [.ref (X.2.2 83), .int v1, .int v2, .int v3] M r M' := by
  refine ct_i (own := RX11) (by decide +kernel) rfl rfl (Nat.le_of_ble_eq_true rfl) (lv0 := [(0, .ref (X.2.2 83)), (1, .int v1), (2, .int v2), (3, .int v3)]) rfl ?_
  intro p e s m args below meth c S
  unfold f_X11_sheet at h
  refine gv_aload_n 0 S 0 0 dX11_sheet_0 rfl rfl ?_
  refine gv_iconst 1 S (0 : Int32) dX11_sheet_1 (by decide) ?_
  refine gv_put 2 S h (hP_83_fault X) mp_X11_sheet_77 rfl rfl dX11_sheet_2 (fun M1 h => ?_)
  refine gv_iload_n 5 S 1 1 dX11_sheet_5 rfl rfl ?_
  obtain ⟨r2, hc3, h⟩ := br_some h
  refine gv_cSi 6 S (As := [.int v1]) (rest := []) (c_X11_isSheet l X M1 v1 r2 hc3) (va_cwS 1 S.1.2.2.2.2 gX11_sheet_X11_isSheet rfl rfl rfl (by decide +kernel) ⟨Nat.le_of_ble_eq_true rfl, Nat.le_of_ble_eq_true rfl⟩) rfl rfl (Nat.le_of_ble_eq_true rfl) dX11_sheet_6 ?_
  refine gv_if_ne 9 S 14 h dX11_sheet_9 (by decide) (fun h => ?_) (fun h => ?_)
  · refine gv_iload_n 14 S 2 2 dX11_sheet_14 rfl rfl ?_
    obtain ⟨r4, hc5, h⟩ := br_some h
    refine gv_cSi 15 S (As := [.int v2]) (rest := []) (c_X11_isSort l X M1 v2 r4 hc5) (va_cwS 1 S.1.2.2.2.2 gX11_sheet_X11_isSort rfl rfl rfl (by decide +kernel) ⟨Nat.le_of_ble_eq_true rfl, Nat.le_of_ble_eq_true rfl⟩) rfl rfl (Nat.le_of_ble_eq_true rfl) dX11_sheet_15 ?_
    refine gv_if_eq 18 S 27 h dX11_sheet_18 (by decide) (fun h => ?_) (fun h => ?_)
    · refine gv_bipush 27 S (-2 : Int32) dX11_sheet_27 (by decide) ?_
      exact gv_iret 29 S h dX11_sheet_29
    · refine gv_iload_n 21 S 3 3 dX11_sheet_21 rfl rfl ?_
      refine gv_bipush 22 S (60 : Int32) dX11_sheet_22 (by decide) ?_
      refine gv_icmp_le 24 S 30 h dX11_sheet_24 (by decide) (fun h => ?_) (fun h => ?_)
      · refine gv_iload_n 30 S 3 3 dX11_sheet_30 rfl rfl ?_
        refine gv_if_ge 31 S 40 h dX11_sheet_31 (by decide) (fun h => ?_) (fun h => ?_)
        · refine gv_aload_n 40 S 0 0 dX11_sheet_40 rfl rfl ?_
          refine gv_get 41 S (hF_83_sorts X) mf_X11_sheet_9 dX11_sheet_41 ?_
          refine gv_iload_n 44 S 1 1 dX11_sheet_44 rfl rfl ?_
          refine gv_iload_n 45 S 2 2 dX11_sheet_45 rfl rfl ?_
          refine gv_iast 46 S h (hI_84 X) dX11_sheet_46 (fun M6 h => ?_)
          refine gv_aload_n 47 S 0 0 dX11_sheet_47 rfl rfl ?_
          refine gv_get 48 S (hF_83_sheetLong X) mf_X11_sheet_13 dX11_sheet_48 ?_
          refine gv_iload_n 51 S 1 1 dX11_sheet_51 rfl rfl ?_
          refine gv_iload_n 52 S 3 3 dX11_sheet_52 rfl rfl ?_
          refine gv_iast 53 S h (hI_85 X) dX11_sheet_53 (fun M7 h => ?_)
          refine gv_iconst 54 S (0 : Int32) dX11_sheet_54 (by decide) ?_
          refine gv_istore 55 S (lv' := [(4, .int (0 : Int32)), (0, .ref (X.2.2 83)), (1, .int v1), (2, .int v2), (3, .int v3)]) dX11_sheet_55 (Nat.le_of_ble_eq_true rfl) rfl ?_
          exact gv_sub [1, 2, 0] rfl (t_X11_sheet_57 S FU M7 v1 (0 : Int32) h)
        · refine gv_aload_n 34 S 0 0 dX11_sheet_34 rfl rfl ?_
          refine gv_iconst 35 S (4 : Int32) dX11_sheet_35 (by decide) ?_
          obtain ⟨r8, M9, hc10, h⟩ := bi_some h
          refine gv_cVi 36 S (As := [.int (4 : Int32)]) (rest := []) (c_X11_fails l X M1 (4 : Int32) r8 M9 hc10) (hO_83 X) rfl (cwV 1 S.1.2.2.2.2 gX11_sheet_X11_fails rfl rfl rfl (by decide +kernel) ⟨Nat.le_of_ble_eq_true rfl, Nat.le_of_ble_eq_true rfl⟩) rfl rfl (Nat.le_of_ble_eq_true rfl) dX11_sheet_36 ?_
          exact gv_iret 39 S h dX11_sheet_39
      · refine gv_bipush 27 S (-2 : Int32) dX11_sheet_27 (by decide) ?_
        exact gv_iret 29 S h dX11_sheet_29
  · refine gv_iconst 12 S (-1 : Int32) dX11_sheet_12 (by decide) ?_
    exact gv_iret 13 S h dX11_sheet_13
