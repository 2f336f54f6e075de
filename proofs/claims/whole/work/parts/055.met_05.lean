theorem mi_X11_isBatten_11 : ∀ w ∈ u_ws RX11 TX11 39, w ∈ wsX11_isBatten := by decide +kernel
theorem mf_X11_isBatten_87 : MF wsX11_isBatten RX11 87 10 5 := ⟨RX11, TX11, 39, rfl, by decide, mi_X11_isBatten_11, by decide +kernel⟩
abbrev rm_X11_isBatten : Room := { frames := 0, cells := 0, slots := 0, locals := 0 }
set_option maxHeartbeats 4000000 in
set_option maxRecDepth 100000 in
theorem c_X11_isBatten (l : Launch) (X : GE) (M : MM) (v1 : Int32) (r : Int32) (h : f_X11_isBatten M v1 = some r) : CTi l yX11_isBatten wsX11_isBatten rm_X11_isBatten X [.ref (X.2.2 83), .int v1] M r M := by
  refine ct_i (own := RX11) (by decide +kernel) rfl rfl (Nat.le_of_ble_eq_true rfl) (lv0 := [(0, .ref (X.2.2 83)), (1, .int v1)]) rfl ?_
  intro p e s m args below meth c S
  unfold f_X11_isBatten at h
  refine gv_iload_n 0 S 1 1 dX11_isBatten_0 rfl rfl ?_
  refine gv_if_lt 1 S 16 h dX11_isBatten_1 (by decide) (fun h => ?_) (fun h => ?_)
  · refine gv_iconst 16 S (0 : Int32) dX11_isBatten_16 (by decide) ?_
    exact gv_zretR 17 S h rfl dX11_isBatten_17
  · refine gv_iload_n 4 S 1 1 dX11_isBatten_4 rfl rfl ?_
    refine gv_aload_n 5 S 0 0 dX11_isBatten_5 rfl rfl ?_
    refine gv_get 6 S (hF_83_battens X) mf_X11_isBatten_87 dX11_isBatten_6 ?_
    refine gv_icmp_ge 9 S 16 h dX11_isBatten_9 (by decide) (fun h => ?_) (fun h => ?_)
    · refine gv_iconst 16 S (0 : Int32) dX11_isBatten_16 (by decide) ?_
      exact gv_zretR 17 S h rfl dX11_isBatten_17
    · refine gv_iconst 12 S (1 : Int32) dX11_isBatten_12 (by decide) ?_
      refine gv_goto 13 S 17 dX11_isBatten_13 (by decide) ?_
      exact gv_zretR 17 S h rfl dX11_isBatten_17
abbrev rm_X11_isDigit : Room := { frames := 1, cells := 0, slots := 0, locals := 22 }
set_option maxHeartbeats 4000000 in
set_option maxRecDepth 100000 in
theorem c_X11_isDigit (l : Launch) (X : GE) (M : MM) (v0 : Int32) (r : Int32) (h : f_X11_isDigit M v0 = some r) : CTi l yX11_isDigit wsX11_isDigit rm_X11_isDigit X [.int v0] M r M := by
  refine ct_i (own := RX11) (by decide +kernel) rfl rfl (Nat.le_of_ble_eq_true rfl) (lv0 := [(0, .int v0)]) rfl ?_
  intro p e s m args below meth c S
  unfold f_X11_isDigit at h
  refine gv_iload_n 0 S 0 0 dX11_isDigit_0 rfl rfl ?_
  refine gv_iconst 1 S (0 : Int32) dX11_isDigit_1 (by decide) ?_
  refine gv_bipush 2 S (9 : Int32) dX11_isDigit_2 (by decide) ?_
  obtain ⟨r1, hc2, h⟩ := br_some h
  refine gv_cSi 4 S (As := [.int v0, .int (0 : Int32), .int (9 : Int32)]) (rest := []) (c_X11_within l X M v0 (0 : Int32) (9 : Int32) r1 hc2) (va_cwS 3 S.1.2.2.2.2 gX11_isDigit_X11_within rfl rfl rfl (by decide +kernel) ⟨Nat.le_of_ble_eq_true rfl, Nat.le_of_ble_eq_true rfl⟩) rfl rfl (Nat.le_of_ble_eq_true rfl) dX11_isDigit_4 ?_
  exact gv_zretRG 7 S h dX11_isDigit_7
theorem mi_X11_digit_11 : ∀ w ∈ u_ws RX11 TX11 39, w ∈ wsX11_digit := by decide +kernel
theorem mf_X11_digit_90 : MF wsX11_digit RX11 90 10 14 := ⟨RX11, TX11, 39, rfl, by decide, mi_X11_digit_11, by decide +kernel⟩
theorem mf_X11_digit_16 : MF wsX11_digit RX11 16 10 4 := ⟨RX11, TX11, 39, rfl, by decide, mi_X11_digit_11, by decide +kernel⟩
theorem mp_X11_digit_90 : MP wsX11_digit RX11 90 10 14 .int := ⟨RX11, TX11, 39, tyX11, rfl, by decide, mi_X11_digit_11, by decide +kernel, tyX11_ok, nmX11, rfl, by decide +kernel⟩
abbrev rm_X11_digit : Room := { frames := 1, cells := 0, slots := 0, locals := 22 }
set_option maxHeartbeats 4000000 in
set_option maxRecDepth 100000 in
theorem c_X11_digit (l : Launch) (X : GE) (M : MM) (v1 : Int32) (v2 : Int32) (v3 : Int32) (r : Int32) (M' : MM) (h : f_X11_digit M v1 v2 v3 = some (r, M')) : CTi l yX11_digit wsX11_digit rm_X11_digit X [.ref (X.2.2 83), .int v1, .int v2, .int v3] M r M' := by
  refine ct_i (own := RX11) (by decide +kernel) rfl rfl (Nat.le_of_ble_eq_true rfl) (lv0 := [(0, .ref (X.2.2 83)), (1, .int v1), (2, .int v2), (3, .int v3)]) rfl ?_
  intro p e s m args below meth c S
  unfold f_X11_digit at h
  refine gv_aload_n 0 S 0 0 dX11_digit_0 rfl rfl ?_
  refine gv_get 1 S (hF_83_at X) mf_X11_digit_90 dX11_digit_1 ?_
  refine gv_iload_n 4 S 1 1 dX11_digit_4 rfl rfl ?_
  refine gv_icmp_ge 5 S 31 h dX11_digit_5 (by decide) (fun h => ?_) (fun h => ?_)
  · refine gv_bipush 31 S (-9 : Int32) dX11_digit_31 (by decide) ?_
    exact gv_iret 33 S h dX11_digit_33
  · refine gv_aload_n 8 S 0 0 dX11_digit_8 rfl rfl ?_
    refine gv_get 9 S (hF_83_cells X) mf_X11_digit_16 dX11_digit_9 ?_
    refine gv_aload_n 12 S 0 0 dX11_digit_12 rfl rfl ?_
    refine gv_get 13 S (hF_83_at X) mf_X11_digit_90 dX11_digit_13 ?_
    refine gv_iald 16 S h (hI_86 X) dX11_digit_16 (fun h => ?_)
    refine gv_bipush 17 S (48 : Int32) dX11_digit_17 (by decide) ?_
    refine gv_iload_n 19 S 2 2 dX11_digit_19 rfl rfl ?_
    refine gv_iadd 20 S dX11_digit_20 ?_
    refine gv_bipush 21 S (48 : Int32) dX11_digit_21 (by decide) ?_
    refine gv_iload_n 23 S 3 3 dX11_digit_23 rfl rfl ?_
    refine gv_iadd 24 S dX11_digit_24 ?_
    obtain ⟨r1, hc2, h⟩ := br_some h
    refine gv_cSi 25 S (As := [.int (M 86 (M 83 14).toNatClampNeg), .int ((48 : Int32) + v2), .int ((48 : Int32) + v3)]) (rest := []) (c_X11_within l X M (M 86 (M 83 14).toNatClampNeg) ((48 : Int32) + v2) ((48 : Int32) + v3) r1 hc2) (va_cwS 3 S.1.2.2.2.2 gX11_digit_X11_within rfl rfl rfl (by decide +kernel) ⟨Nat.le_of_ble_eq_true rfl, Nat.le_of_ble_eq_true rfl⟩) rfl rfl (Nat.le_of_ble_eq_true rfl) dX11_digit_25 ?_
    refine gv_if_ne 28 S 34 h dX11_digit_28 (by decide) (fun h => ?_) (fun h => ?_)
    · refine gv_aload_n 34 S 0 0 dX11_digit_34 rfl rfl ?_
      refine gv_dup 35 S dX11_digit_35 rfl ?_
      refine gv_get 36 S (hF_83_at X) mf_X11_digit_90 dX11_digit_36 ?_
      refine gv_iconst 39 S (1 : Int32) dX11_digit_39 (by decide) ?_
      refine gv_iadd 40 S dX11_digit_40 ?_
      refine gv_put 41 S h (hP_83_at X) mp_X11_digit_90 rfl rfl dX11_digit_41 (fun M3 h => ?_)
      refine gv_aload_n 44 S 0 0 dX11_digit_44 rfl rfl ?_
      refine gv_get 45 S (hF_83_cells X) mf_X11_digit_16 dX11_digit_45 ?_
      refine gv_aload_n 48 S 0 0 dX11_digit_48 rfl rfl ?_
      refine gv_get 49 S (hF_83_at X) mf_X11_digit_90 dX11_digit_49 ?_
      refine gv_iconst 52 S (1 : Int32) dX11_digit_52 (by decide) ?_
      refine gv_isub 53 S dX11_digit_53 ?_
      refine gv_iald 54 S h (hI_86 X) dX11_digit_54 (fun h => ?_)
      refine gv_bipush 55 S (48 : Int32) dX11_digit_55 (by decide) ?_
      refine gv_isub 57 S dX11_digit_57 ?_
      exact gv_iret 58 S h dX11_digit_58
    · refine gv_bipush 31 S (-9 : Int32) dX11_digit_31 (by decide) ?_
      exact gv_iret 33 S h dX11_digit_33
theorem mi_X11_isSign_11 : ∀ w ∈ u_ws RX11 TX11 39, w ∈ wsX11_isSign := by decide +kernel
theorem mf_X11_isSign_90 : MF wsX11_isSign RX11 90 10 14 := ⟨RX11, TX11, 39, rfl, by decide, mi_X11_isSign_11, by decide +kernel⟩
theorem mf_X11_isSign_16 : MF wsX11_isSign RX11 16 10 4 := ⟨RX11, TX11, 39, rfl, by decide, mi_X11_isSign_11, by decide +kernel⟩
theorem mp_X11_isSign_90 : MP wsX11_isSign RX11 90 10 14 .int := ⟨RX11, TX11, 39, tyX11, rfl, by decide, mi_X11_isSign_11, by decide +kernel, tyX11_ok, nmX11, rfl, by decide +kernel⟩
abbrev rm_X11_isSign : Room := { frames := 0, cells := 0, slots := 0, locals := 0 }
set_option maxHeartbeats 4000000 in
set_option maxRecDepth 100000 in
theorem c_X11_isSign (l : Launch) (X : GE) (M : MM) (v1 : Int32) (v2 : Int32) (r : Int32) (M' : MM) (h : f_X11_isSign M v1 v2 = some (r, M')) : CTi l yX11_isSign wsX11_isSign rm_X11_isSign X [.ref (X.2.2 83), .int v1, .int v2] M r M' := by
  refine ct_i (own := RX11) (by decide +kernel) rfl rfl (Nat.le_of_ble_eq_true rfl) (lv0 := [(0, .ref (X.2.2 83)), (1, .int v1), (2, .int v2)]) rfl ?_
  intro p e s m args below meth c S
  unfold f_X11_isSign at h
  refine gv_aload_n 0 S 0 0 dX11_isSign_0 rfl rfl ?_
  refine gv_get 1 S (hF_83_at X) mf_X11_isSign_90 dX11_isSign_1 ?_
  refine gv_iload_n 4 S 1 1 dX11_isSign_4 rfl rfl ?_
  refine gv_icmp_ge 5 S 21 h dX11_isSign_5 (by decide) (fun h => ?_) (fun h => ?_)
  · refine gv_iconst 21 S (0 : Int32) dX11_isSign_21 (by decide) ?_
    exact gv_zret 22 S h rfl dX11_isSign_22
  · refine gv_aload_n 8 S 0 0 dX11_isSign_8 rfl rfl ?_
    refine gv_get 9 S (hF_83_cells X) mf_X11_isSign_16 dX11_isSign_9 ?_
    refine gv_aload_n 12 S 0 0 dX11_isSign_12 rfl rfl ?_
    refine gv_get 13 S (hF_83_at X) mf_X11_isSign_90 dX11_isSign_13 ?_
    refine gv_iald 16 S h (hI_86 X) dX11_isSign_16 (fun h => ?_)
    refine gv_iload_n 17 S 2 2 dX11_isSign_17 rfl rfl ?_
    refine gv_icmp_eq 18 S 23 h dX11_isSign_18 (by decide) (fun h => ?_) (fun h => ?_)
    · refine gv_aload_n 23 S 0 0 dX11_isSign_23 rfl rfl ?_
      refine gv_dup 24 S dX11_isSign_24 rfl ?_
      refine gv_get 25 S (hF_83_at X) mf_X11_isSign_90 dX11_isSign_25 ?_
      refine gv_iconst 28 S (1 : Int32) dX11_isSign_28 (by decide) ?_
      refine gv_iadd 29 S dX11_isSign_29 ?_
      refine gv_put 30 S h (hP_83_at X) mp_X11_isSign_90 rfl rfl dX11_isSign_30 (fun M1 h => ?_)
      refine gv_iconst 33 S (1 : Int32) dX11_isSign_33 (by decide) ?_
      exact gv_zret 34 S h rfl dX11_isSign_34
    · refine gv_iconst 21 S (0 : Int32) dX11_isSign_21 (by decide) ?_
      exact gv_zret 22 S h rfl dX11_isSign_22
theorem mi_X11_readBatten_11 : ∀ w ∈ u_ws RX11 TX11 39, w ∈ wsX11_readBatten := by decide +kernel
theorem mf_X11_readBatten_90 : MF wsX11_readBatten RX11 90 10 14 := ⟨RX11, TX11, 39, rfl, by decide, mi_X11_readBatten_11, by decide +kernel⟩
theorem mf_X11_readBatten_16 : MF wsX11_readBatten RX11 16 10 4 := ⟨RX11, TX11, 39, rfl, by decide, mi_X11_readBatten_11, by decide +kernel⟩
theorem mf_X11_readBatten_132 : MF wsX11_readBatten RX11 132 10 18 := ⟨RX11, TX11, 39, rfl, by decide, mi_X11_readBatten_11, by decide +kernel⟩
theorem mf_X11_readBatten_34 : MF wsX11_readBatten RX11 34 10 19 := ⟨RX11, TX11, 39, rfl, by decide, mi_X11_readBatten_11, by decide +kernel⟩
theorem mp_X11_readBatten_90 : MP wsX11_readBatten RX11 90 10 14 .int := ⟨RX11, TX11, 39, tyX11, rfl, by decide, mi_X11_readBatten_11, by decide +kernel, tyX11_ok, nmX11, rfl, by decide +kernel⟩
theorem mp_X11_readBatten_132 : MP wsX11_readBatten RX11 132 10 18 .int := ⟨RX11, TX11, 39, tyX11, rfl, by decide, mi_X11_readBatten_11, by decide +kernel, tyX11_ok, nmX11, rfl, by decide +kernel⟩
abbrev rm_X11_readBatten : Room := { frames := 2, cells := 0, slots := 0, locals := 45 }
set_option maxHeartbeats 4000000 in
set_option maxRecDepth 100000 in
theorem t_X11_readBatten_122 {p : Program} {l : Launch} {e : Env} {s : State} {m : MethodId} {args : Array Value} {below : List Frame} {meth : Method} {c : Code} {X : GE} {r : Int32} {M' : MM} (S : CX p s m args meth c cX11_readBatten 5 wsX11_readBatten RX11 (some .boolean) X) (rec93 : MM → Int32 → Int32 → Int32 → Option (Int32 × MM)) (hrec93 : ∀ (M : MM) (v1 : Int32) (v3 : Int32) (v4 : Int32), rec93 M v1 v3 v4 = some (r, M') → V p l e (headSpec wsX11_readBatten rm_X11_readBatten).room s m args below meth c 5 X (MQ below (gQi X r M') args s 0 0 (gA X)) M 93 [(0, .ref (X.2.2 83)), (1, .int v1), (3, .int v3), (4, .int v4)] []) (M : MM) (v1 : Int32) (v3 : Int32) (v4 : Int32) (s0 : Int32) (s1 : Int32) (s2 : Int32) (s4 : Int32) (h : g_X11_readBatten_122 rec93 M v1 v3 v4 s0 s1 s2 s4 = some (r, M')) : V p l e (headSpec wsX11_readBatten rm_X11_readBatten).room s m args below meth c 5 X (MQ below (gQi X r M') args s 0 0 (gA X)) M 122 [(0, .ref (X.2.2 83)), (1, .int v1), (3, .int v3), (4, .int v4)] [.int s0, .int s1, .int s2, .ref (X.2.2 83), .int s4, .ref (X.2.2 92)] := by
  unfold g_X11_readBatten_122 at h
  obtain ⟨r5, M6, hc7, h⟩ := bi_some h
  refine gv_cVi 122 S (As := [.int s2, .int s1, .int s0]) (rest := [.int s4, .ref (X.2.2 92)]) (c_X11_digit l X M s2 s1 s0 r5 M6 hc7) (hO_83 X) rfl (cwV 3 S.1.2.2.2.2 gX11_readBatten_X11_digit rfl rfl rfl (by decide +kernel) ⟨Nat.le_of_ble_eq_true rfl, Nat.le_of_ble_eq_true rfl⟩) rfl rfl (Nat.le_of_ble_eq_true rfl) dX11_readBatten_122 ?_
  refine gv_iast 125 S h (hI_92 X) dX11_readBatten_125 (fun M8 h => ?_)
  refine gv_aload_n 126 S 0 0 dX11_readBatten_126 rfl rfl ?_
  refine gv_get 127 S (hF_83_read X) mf_X11_readBatten_34 dX11_readBatten_127 ?_
  refine gv_iload_n 130 S 3 2 dX11_readBatten_130 rfl rfl ?_
  refine gv_iload 131 S 3 dX11_readBatten_131 rfl ?_
  refine gv_iadd 133 S dX11_readBatten_133 ?_
  refine gv_iald 134 S h (hI_92 X) dX11_readBatten_134 (fun h => ?_)
  refine gv_bipush 135 S (-9 : Int32) dX11_readBatten_135 (by decide) ?_
  refine gv_icmp_ne 137 S 142 h dX11_readBatten_137 (by decide) (fun h => ?_) (fun h => ?_)
  · refine gv_iinc 142 S 3 (v4 + (1 : Int32)) (lv' := [(4, .int (v4 + (1 : Int32))), (0, .ref (X.2.2 83)), (1, .int v1), (3, .int v3)]) dX11_readBatten_142 rfl rfl (Nat.le_of_ble_eq_true rfl) rfl ?_
    refine gv_goto 145 S 93 dX11_readBatten_145 (by decide) ?_
    exact gv_sub [1, 2, 3, 0] rfl (hrec93 M8 v1 v3 (v4 + (1 : Int32)) h)
  · refine gv_iconst 140 S (0 : Int32) dX11_readBatten_140 (by decide) ?_
    exact gv_zret 141 S h rfl dX11_readBatten_141
set_option maxHeartbeats 4000000 in
set_option maxRecDepth 100000 in
theorem t_X11_readBatten_93 {p : Program} {l : Launch} {e : Env} {s : State} {m : MethodId} {args : Array Value} {below : List Frame} {meth : Method} {c : Code} {X : GE} {r : Int32} {M' : MM} (S : CX p s m args meth c cX11_readBatten 5 wsX11_readBatten RX11 (some .boolean) X) : ∀ (n : Nat) (M : MM) (v1 : Int32) (v3 : Int32) (v4 : Int32) (h : g_X11_readBatten_93 n M v1 v3 v4 = some (r, M')), V p l e (headSpec wsX11_readBatten rm_X11_readBatten).room s m args below meth c 5 X (MQ below (gQi X r M') args s 0 0 (gA X)) M 93 [(0, .ref (X.2.2 83)), (1, .int v1), (3, .int v3), (4, .int v4)] [] := by
  intro n
  induction n with
  | zero =>
    intro M v1 v3 v4 h
    rw [g_X11_readBatten_93] at h
    cases h
  | succ n ih =>
    intro M v1 v3 v4 h
    rw [g_X11_readBatten_93] at h
    refine gv_iload 93 S 3 dX11_readBatten_93 rfl ?_
    refine gv_iconst 95 S (5 : Int32) dX11_readBatten_95 (by decide) ?_
    refine gv_icmp_ge 96 S 148 h dX11_readBatten_96 (by decide) (fun h => ?_) (fun h => ?_)
    · refine gv_aload_n 148 S 0 0 dX11_readBatten_148 rfl rfl ?_
      refine gv_dup 149 S dX11_readBatten_149 rfl ?_
      refine gv_get 150 S (hF_83_readBattens X) mf_X11_readBatten_132 dX11_readBatten_150 ?_
      refine gv_iconst 153 S (1 : Int32) dX11_readBatten_153 (by decide) ?_
      refine gv_iadd 154 S dX11_readBatten_154 ?_
      refine gv_put 155 S h (hP_83_readBattens X) mp_X11_readBatten_132 rfl rfl dX11_readBatten_155 (fun M4 h => ?_)
      refine gv_iconst 158 S (1 : Int32) dX11_readBatten_158 (by decide) ?_
      exact gv_zret 159 S h rfl dX11_readBatten_159
    · refine gv_aload_n 99 S 0 0 dX11_readBatten_99 rfl rfl ?_
      refine gv_get 100 S (hF_83_read X) mf_X11_readBatten_34 dX11_readBatten_100 ?_
      refine gv_iload_n 103 S 3 2 dX11_readBatten_103 rfl rfl ?_
      refine gv_iload 104 S 3 dX11_readBatten_104 rfl ?_
      refine gv_iadd 106 S dX11_readBatten_106 ?_
      refine gv_aload_n 107 S 0 0 dX11_readBatten_107 rfl rfl ?_
      refine gv_iload_n 108 S 1 1 dX11_readBatten_108 rfl rfl ?_
      refine gv_iconst 109 S (0 : Int32) dX11_readBatten_109 (by decide) ?_
      refine gv_iload 110 S 3 dX11_readBatten_110 rfl ?_
      refine gv_iconst 112 S (4 : Int32) dX11_readBatten_112 (by decide) ?_
      refine gv_icmp_ne 113 S 120 h dX11_readBatten_113 (by decide) (fun h => ?_) (fun h => ?_)
      · refine gv_bipush 120 S (9 : Int32) dX11_readBatten_120 (by decide) ?_
        exact gv_sub [0, 1, 2, 3] rfl (t_X11_readBatten_122 S (g_X11_readBatten_93 n) ih M v1 v3 v4 (9 : Int32) (0 : Int32) v1 (v3 + v4) h)
      · refine gv_iconst 116 S (3 : Int32) dX11_readBatten_116 (by decide) ?_
        refine gv_goto 117 S 122 dX11_readBatten_117 (by decide) ?_
        exact gv_sub [0, 1, 2, 3] rfl (t_X11_readBatten_122 S (g_X11_readBatten_93 n) ih M v1 v3 v4 (3 : Int32) (0 : Int32) v1 (v3 + v4) h)
set_option maxHeartbeats 4000000 in
set_option maxRecDepth 100000 in
theorem t_X11_readBatten_66 {p : Program} {l : Launch} {e : Env} {s : State} {m : MethodId} {args : Array Value} {below : List Frame} {meth : Method} {c : Code} {X : GE} {r : Int32} {M' : MM} (S : CX p s m args meth c cX11_readBatten 5 wsX11_readBatten RX11 (some .boolean) X) (M : MM) (v1 : Int32) (v3 : Int32) (s0 : Int32) (s1 : Int32) (h : g_X11_readBatten_66 M v1 v3 s0 s1 = some (r, M')) : V p l e (headSpec wsX11_readBatten rm_X11_readBatten).room s m args below meth c 5 X (MQ below (gQi X r M') args s 0 0 (gA X)) M 66 [(0, .ref (X.2.2 83)), (1, .int v1), (3, .int v3)] [.int s0, .int s1, .ref (X.2.2 92)] := by
  unfold g_X11_readBatten_66 at h
  refine gv_iast 66 S h (hI_92 X) dX11_readBatten_66 (fun M2 h => ?_)
  refine gv_aload_n 67 S 0 0 dX11_readBatten_67 rfl rfl ?_
  refine gv_get 68 S (hF_83_read X) mf_X11_readBatten_34 dX11_readBatten_68 ?_
  refine gv_iload_n 71 S 3 2 dX11_readBatten_71 rfl rfl ?_
  refine gv_iald 72 S h (hI_92 X) dX11_readBatten_72 (fun h => ?_)
  refine gv_bipush 73 S (-9 : Int32) dX11_readBatten_73 (by decide) ?_
  refine gv_icmp_ne 75 S 80 h dX11_readBatten_75 (by decide) (fun h => ?_) (fun h => ?_)
  · refine gv_aload_n 80 S 0 0 dX11_readBatten_80 rfl rfl ?_
    refine gv_dup 81 S dX11_readBatten_81 rfl ?_
    refine gv_get 82 S (hF_83_at X) mf_X11_readBatten_90 dX11_readBatten_82 ?_
    refine gv_iconst 85 S (1 : Int32) dX11_readBatten_85 (by decide) ?_
    refine gv_iadd 86 S dX11_readBatten_86 ?_
    refine gv_put 87 S h (hP_83_at X) mp_X11_readBatten_90 rfl rfl dX11_readBatten_87 (fun M3 h => ?_)
    refine gv_iconst 90 S (1 : Int32) dX11_readBatten_90 (by decide) ?_
    refine gv_istore 91 S (lv' := [(4, .int (1 : Int32)), (0, .ref (X.2.2 83)), (1, .int v1), (3, .int v3)]) dX11_readBatten_91 (Nat.le_of_ble_eq_true rfl) rfl ?_
    exact gv_sub [1, 2, 3, 0] rfl (t_X11_readBatten_93 S FU M3 v1 v3 (1 : Int32) h)
  · refine gv_iconst 78 S (0 : Int32) dX11_readBatten_78 (by decide) ?_
    exact gv_zret 79 S h rfl dX11_readBatten_79
set_option maxHeartbeats 4000000 in
set_option maxRecDepth 100000 in
theorem t_X11_readBatten_21 {p : Program} {l : Launch} {e : Env} {s : State} {m : MethodId} {args : Array Value} {below : List Frame} {meth : Method} {c : Code} {X : GE} {r : Int32} {M' : MM} (S : CX p s m args meth c cX11_readBatten 5 wsX11_readBatten RX11 (some .boolean) X) (M : MM) (v1 : Int32) (s0 : Int32) (h : g_X11_readBatten_21 M v1 s0 = some (r, M')) : V p l e (headSpec wsX11_readBatten rm_X11_readBatten).room s m args below meth c 5 X (MQ below (gQi X r M') args s 0 0 (gA X)) M 21 [(0, .ref (X.2.2 83)), (1, .int v1)] [.int s0] := by
  unfold g_X11_readBatten_21 at h
  refine gv_istore_n 21 S 2 (lv' := [(2, .int s0), (0, .ref (X.2.2 83)), (1, .int v1)]) dX11_readBatten_21 rfl (Nat.le_of_ble_eq_true rfl) rfl ?_
  refine gv_iconst 22 S (5 : Int32) dX11_readBatten_22 (by decide) ?_
  refine gv_aload_n 23 S 0 1 dX11_readBatten_23 rfl rfl ?_
  refine gv_get 24 S (hF_83_readBattens X) mf_X11_readBatten_132 dX11_readBatten_24 ?_
  refine gv_imul 27 S dX11_readBatten_27 ?_
  refine gv_nmi h (fun x1 h => ?_)
  refine gv_istore_n 28 S 3 (lv' := [(3, .int x1), (2, .int s0), (0, .ref (X.2.2 83)), (1, .int v1)]) dX11_readBatten_28 rfl (Nat.le_of_ble_eq_true rfl) rfl ?_
  refine gv_aload_n 29 S 0 2 dX11_readBatten_29 rfl rfl ?_
  refine gv_get 30 S (hF_83_read X) mf_X11_readBatten_34 dX11_readBatten_30 ?_
  refine gv_iload_n 33 S 3 0 dX11_readBatten_33 rfl rfl ?_
  refine gv_iload_n 34 S 2 1 dX11_readBatten_34 rfl rfl ?_
  refine gv_bipush 35 S (108 : Int32) dX11_readBatten_35 (by decide) ?_
  refine gv_icmp_ne 37 S 44 h dX11_readBatten_37 (by decide) (fun h => ?_) (fun h => ?_)
  · refine gv_iload_n 44 S 2 1 dX11_readBatten_44 rfl rfl ?_
    refine gv_bipush 45 S (97 : Int32) dX11_readBatten_45 (by decide) ?_
    refine gv_icmp_ne 47 S 54 h dX11_readBatten_47 (by decide) (fun h => ?_) (fun h => ?_)
    · refine gv_iload_n 54 S 2 1 dX11_readBatten_54 rfl rfl ?_
      refine gv_bipush 55 S (119 : Int32) dX11_readBatten_55 (by decide) ?_
      refine gv_icmp_ne 57 S 64 h dX11_readBatten_57 (by decide) (fun h => ?_) (fun h => ?_)
      · refine gv_bipush 64 S (-9 : Int32) dX11_readBatten_64 (by decide) ?_
        exact gv_sub [2, 3, 0] rfl (t_X11_readBatten_66 S M v1 x1 (-9 : Int32) x1 h)
      · refine gv_iconst 60 S (2 : Int32) dX11_readBatten_60 (by decide) ?_
        refine gv_goto 61 S 66 dX11_readBatten_61 (by decide) ?_
        exact gv_sub [2, 3, 0] rfl (t_X11_readBatten_66 S M v1 x1 (2 : Int32) x1 h)
    · refine gv_iconst 50 S (1 : Int32) dX11_readBatten_50 (by decide) ?_
      refine gv_goto 51 S 66 dX11_readBatten_51 (by decide) ?_
      exact gv_sub [2, 3, 0] rfl (t_X11_readBatten_66 S M v1 x1 (1 : Int32) x1 h)
  · refine gv_iconst 40 S (0 : Int32) dX11_readBatten_40 (by decide) ?_
    refine gv_goto 41 S 66 dX11_readBatten_41 (by decide) ?_
    exact gv_sub [2, 3, 0] rfl (t_X11_readBatten_66 S M v1 x1 (0 : Int32) x1 h)
set_option maxHeartbeats 4000000 in
set_option maxRecDepth 100000 in
theorem c_X11_readBatten (l : Launch) (X : GE) (M : MM) (v1 : Int32) (r : Int32) (M' : MM) (h : f_X11_readBatten M v1 = some (r, M')) : CTi l yX11_readBatten wsX11_readBatten rm_X11_readBatten X [.ref (X.2.2 83), .int v1] M r M' := by
  refine ct_i (own := RX11) (by decide +kernel) rfl rfl (Nat.le_of_ble_eq_true rfl) (lv0 := [(0, .ref (X.2.2 83)), (1, .int v1)]) rfl ?_
  intro p e s m args below meth c S
  unfold f_X11_readBatten at h
  refine gv_aload_n 0 S 0 0 dX11_readBatten_0 rfl rfl ?_
  refine gv_get 1 S (hF_83_at X) mf_X11_readBatten_90 dX11_readBatten_1 ?_
  refine gv_iload_n 4 S 1 1 dX11_readBatten_4 rfl rfl ?_
  refine gv_icmp_ge 5 S 20 h dX11_readBatten_5 (by decide) (fun h => ?_) (fun h => ?_)
  · refine gv_iconst 20 S (0 : Int32) dX11_readBatten_20 (by decide) ?_
    exact gv_sub [0, 1] rfl (t_X11_readBatten_21 S M v1 (0 : Int32) h)
  · refine gv_aload_n 8 S 0 0 dX11_readBatten_8 rfl rfl ?_
    refine gv_get 9 S (hF_83_cells X) mf_X11_readBatten_16 dX11_readBatten_9 ?_
    refine gv_aload_n 12 S 0 0 dX11_readBatten_12 rfl rfl ?_
    refine gv_get 13 S (hF_83_at X) mf_X11_readBatten_90 dX11_readBatten_13 ?_
    refine gv_iald 16 S h (hI_86 X) dX11_readBatten_16 (fun h => ?_)
    refine gv_goto 17 S 21 dX11_readBatten_17 (by decide) ?_
    exact gv_sub [0, 1] rfl (t_X11_readBatten_21 S M v1 (M 86 (M 83 14).toNatClampNeg) h)
theorem mi_X11_readLoft_11 : ∀ w ∈ u_ws RX11 TX11 39, w ∈ wsX11_readLoft := by decide +kernel
theorem mp_X11_readLoft_132 : MP wsX11_readLoft RX11 132 10 18 .int := ⟨RX11, TX11, 39, tyX11, rfl, by decide, mi_X11_readLoft_11, by decide +kernel, tyX11_ok, nmX11, rfl, by decide +kernel⟩
theorem mp_X11_readLoft_114 : MP wsX11_readLoft RX11 114 10 15 .int := ⟨RX11, TX11, 39, tyX11, rfl, by decide, mi_X11_readLoft_11, by decide +kernel, tyX11_ok, nmX11, rfl, by decide +kernel⟩
theorem mf_X11_readLoft_114 : MF wsX11_readLoft RX11 114 10 15 := ⟨RX11, TX11, 39, rfl, by decide, mi_X11_readLoft_11, by decide +kernel⟩
theorem mp_X11_readLoft_120 : MP wsX11_readLoft RX11 120 10 16 .int := ⟨RX11, TX11, 39, tyX11, rfl, by decide, mi_X11_readLoft_11, by decide +kernel, tyX11_ok, nmX11, rfl, by decide +kernel⟩
theorem mf_X11_readLoft_120 : MF wsX11_readLoft RX11 120 10 16 := ⟨RX11, TX11, 39, rfl, by decide, mi_X11_readLoft_11, by decide +kernel⟩
theorem mp_X11_readLoft_126 : MP wsX11_readLoft RX11 126 10 17 .int := ⟨RX11, TX11, 39, tyX11, rfl, by decide, mi_X11_readLoft_11, by decide +kernel, tyX11_ok, nmX11, rfl, by decide +kernel⟩
theorem mf_X11_readLoft_126 : MF wsX11_readLoft RX11 126 10 17 := ⟨RX11, TX11, 39, rfl, by decide, mi_X11_readLoft_11, by decide +kernel⟩
theorem mf_X11_readLoft_132 : MF wsX11_readLoft RX11 132 10 18 := ⟨RX11, TX11, 39, rfl, by decide, mi_X11_readLoft_11, by decide +kernel⟩
theorem mf_X11_readLoft_90 : MF wsX11_readLoft RX11 90 10 14 := ⟨RX11, TX11, 39, rfl, by decide, mi_X11_readLoft_11, by decide +kernel⟩
abbrev rm_X11_readLoft : Room := { frames := 3, cells := 0, slots := 0, locals := 69 }
set_option maxHeartbeats 4000000 in
set_option maxRecDepth 100000 in
theorem t_X11_readLoft_111 {p : Program} {l : Launch} {e : Env} {s : State} {m : MethodId} {args : Array Value} {below : List Frame} {meth : Method} {c : Code} {X : GE} {r : Int32} {M' : MM} (S : CX p s m args meth c cX11_readLoft 2 wsX11_readLoft RX11 (some .boolean) X) (rec86 : MM → Int32 → Option (Int32 × MM)) (hrec86 : ∀ (M : MM) (v1 : Int32), rec86 M v1 = some (r, M') → V p l e (headSpec wsX11_readLoft rm_X11_readLoft).room s m args below meth c 2 X (MQ below (gQi X r M') args s 0 0 (gA X)) M 86 [(0, .ref (X.2.2 83)), (1, .int v1)] []) (M : MM) (v1 : Int32) (h : g_X11_readLoft_111 rec86 M v1 = some (r, M')) : V p l e (headSpec wsX11_readLoft rm_X11_readLoft).room s m args below meth c 2 X (MQ below (gQi X r M') args s 0 0 (gA X)) M 111 [(0, .ref (X.2.2 83)), (1, .int v1)] [] := by
  unfold g_X11_readLoft_111 at h
  refine gv_aload_n 111 S 0 0 dX11_readLoft_111 rfl rfl ?_
  refine gv_iload_n 112 S 1 1 dX11_readLoft_112 rfl rfl ?_
  refine gv_bipush 113 S (59 : Int32) dX11_readLoft_113 (by decide) ?_
  obtain ⟨r17, M18, hc19, h⟩ := bi_some h
  refine gv_cVi 115 S (As := [.int v1, .int (59 : Int32)]) (rest := []) (c_X11_isSign l X M v1 (59 : Int32) r17 M18 hc19) (hO_83 X) rfl (cwV 2 S.1.2.2.2.2 gX11_readLoft_X11_isSign rfl rfl rfl (by decide +kernel) ⟨Nat.le_of_ble_eq_true rfl, Nat.le_of_ble_eq_true rfl⟩) rfl rfl (Nat.le_of_ble_eq_true rfl) dX11_readLoft_115 ?_
  refine gv_if_eq 118 S 129 h dX11_readLoft_118 (by decide) (fun h => ?_) (fun h => ?_)
  · refine gv_iconst 129 S (0 : Int32) dX11_readLoft_129 (by decide) ?_
    exact gv_zret 130 S h rfl dX11_readLoft_130
  · refine gv_aload_n 121 S 0 0 dX11_readLoft_121 rfl rfl ?_
    refine gv_iload_n 122 S 1 1 dX11_readLoft_122 rfl rfl ?_
    obtain ⟨r20, M21, hc22, h⟩ := bi_some h
    refine gv_cVi 123 S (As := [.int v1]) (rest := []) (c_X11_readBatten l X M18 v1 r20 M21 hc22) (hO_83 X) rfl (cwV 1 S.1.2.2.2.2 gX11_readLoft_X11_readBatten rfl rfl rfl (by decide +kernel) ⟨Nat.le_of_ble_eq_true rfl, Nat.le_of_ble_eq_true rfl⟩) rfl rfl (Nat.le_of_ble_eq_true rfl) dX11_readLoft_123 ?_
    refine gv_if_ne 126 S 86 h dX11_readLoft_126 (by decide) (fun h => ?_) (fun h => ?_)
    · exact gv_sub [0, 1] rfl (hrec86 M21 v1 h)
    · refine gv_iconst 129 S (0 : Int32) dX11_readLoft_129 (by decide) ?_
      exact gv_zret 130 S h rfl dX11_readLoft_130
set_option maxHeartbeats 4000000 in
set_option maxRecDepth 100000 in
theorem t_X11_readLoft_131 {p : Program} {l : Launch} {e : Env} {s : State} {m : MethodId} {args : Array Value} {below : List Frame} {meth : Method} {c : Code} {X : GE} {r : Int32} {M' : MM} (S : CX p s m args meth c cX11_readLoft 2 wsX11_readLoft RX11 (some .boolean) X) (M : MM) (v1 : Int32) (h : g_X11_readLoft_131 M v1 = some (r, M')) : V p l e (headSpec wsX11_readLoft rm_X11_readLoft).room s m args below meth c 2 X (MQ below (gQi X r M') args s 0 0 (gA X)) M 131 [(0, .ref (X.2.2 83)), (1, .int v1)] [] := by
  unfold g_X11_readLoft_131 at h
  refine gv_aload_n 131 S 0 0 dX11_readLoft_131 rfl rfl ?_
  refine gv_get 132 S (hF_83_at X) mf_X11_readLoft_90 dX11_readLoft_132 ?_
  refine gv_iload_n 135 S 1 1 dX11_readLoft_135 rfl rfl ?_
  refine gv_icmp_ne 136 S 143 h dX11_readLoft_136 (by decide) (fun h => ?_) (fun h => ?_)
  · refine gv_iconst 143 S (0 : Int32) dX11_readLoft_143 (by decide) ?_
    exact gv_zret 144 S h rfl dX11_readLoft_144
  · refine gv_iconst 139 S (1 : Int32) dX11_readLoft_139 (by decide) ?_
    refine gv_goto 140 S 144 dX11_readLoft_140 (by decide) ?_
    exact gv_zret 144 S h rfl dX11_readLoft_144
set_option maxHeartbeats 4000000 in
set_option maxRecDepth 100000 in
theorem t_X11_readLoft_86 {p : Program} {l : Launch} {e : Env} {s : State} {m : MethodId} {args : Array Value} {below : List Frame} {meth : Method} {c : Code} {X : GE} {r : Int32} {M' : MM} (S : CX p s m args meth c cX11_readLoft 2 wsX11_readLoft RX11 (some .boolean) X) : ∀ (n : Nat) (M : MM) (v1 : Int32) (h : g_X11_readLoft_86 n M v1 = some (r, M')), V p l e (headSpec wsX11_readLoft rm_X11_readLoft).room s m args below meth c 2 X (MQ below (gQi X r M') args s 0 0 (gA X)) M 86 [(0, .ref (X.2.2 83)), (1, .int v1)] [] := by
  intro n
  induction n with
  | zero =>
    intro M v1 h
    rw [g_X11_readLoft_86] at h
    cases h
  | succ n ih =>
    intro M v1 h
    rw [g_X11_readLoft_86] at h
    refine gv_aload_n 86 S 0 0 dX11_readLoft_86 rfl rfl ?_
    refine gv_get 87 S (hF_83_readBattens X) mf_X11_readLoft_132 dX11_readLoft_87 ?_
    refine gv_iconst 90 S (2 : Int32) dX11_readLoft_90 (by decide) ?_
    refine gv_icmp_lt 91 S 111 h dX11_readLoft_91 (by decide) (fun h => ?_) (fun h => ?_)
    · exact gv_sub [0, 1] rfl (t_X11_readLoft_111 S (g_X11_readLoft_86 n) ih M v1 h)
    · refine gv_aload_n 94 S 0 0 dX11_readLoft_94 rfl rfl ?_
      refine gv_get 95 S (hF_83_readBattens X) mf_X11_readLoft_132 dX11_readLoft_95 ?_
      refine gv_bipush 98 S (8 : Int32) dX11_readLoft_98 (by decide) ?_
      refine gv_icmp_ge 100 S 131 h dX11_readLoft_100 (by decide) (fun h => ?_) (fun h => ?_)
      · exact gv_sub [0, 1] rfl (t_X11_readLoft_131 S M v1 h)
      · refine gv_aload_n 103 S 0 0 dX11_readLoft_103 rfl rfl ?_
        refine gv_get 104 S (hF_83_at X) mf_X11_readLoft_90 dX11_readLoft_104 ?_
        refine gv_iload_n 107 S 1 1 dX11_readLoft_107 rfl rfl ?_
        refine gv_icmp_ge 108 S 131 h dX11_readLoft_108 (by decide) (fun h => ?_) (fun h => ?_)
        · exact gv_sub [0, 1] rfl (t_X11_readLoft_131 S M v1 h)
        · exact gv_sub [0, 1] rfl (t_X11_readLoft_111 S (g_X11_readLoft_86 n) ih M v1 h)
set_option maxHeartbeats 4000000 in
set_option maxRecDepth 100000 in
theorem c_X11_readLoft (l : Launch) (X : GE) (M : MM) (v1 : Int32) (r : Int32) (M' : MM) (h : f_X11_readLoft M v1 = some (r, M')) : CTi l yX11_readLoft wsX11_readLoft rm_X11_readLoft X [.ref (X.2.2 83), .int v1] M r M' := by
  refine ct_i (own := RX11) (by decide +kernel) rfl rfl (Nat.le_of_ble_eq_true rfl) (lv0 := [(0, .ref (X.2.2 83)), (1, .int v1)]) rfl ?_
  intro p e s m args below meth c S
  unfold f_X11_readLoft at h
  refine gv_aload_n 0 S 0 0 dX11_readLoft_0 rfl rfl ?_
  refine gv_iconst 1 S (0 : Int32) dX11_readLoft_1 (by decide) ?_
  refine gv_put 2 S h (hP_83_readBattens X) mp_X11_readLoft_132 rfl rfl dX11_readLoft_2 (fun M1 h => ?_)
  refine gv_aload_n 5 S 0 0 dX11_readLoft_5 rfl rfl ?_
  refine gv_iload_n 6 S 1 1 dX11_readLoft_6 rfl rfl ?_
  refine gv_bipush 7 S (102 : Int32) dX11_readLoft_7 (by decide) ?_
  obtain ⟨r2, M3, hc4, h⟩ := bi_some h
  refine gv_cVi 9 S (As := [.int v1, .int (102 : Int32)]) (rest := []) (c_X11_isSign l X M1 v1 (102 : Int32) r2 M3 hc4) (hO_83 X) rfl (cwV 2 S.1.2.2.2.2 gX11_readLoft_X11_isSign rfl rfl rfl (by decide +kernel) ⟨Nat.le_of_ble_eq_true rfl, Nat.le_of_ble_eq_true rfl⟩) rfl rfl (Nat.le_of_ble_eq_true rfl) dX11_readLoft_9 ?_
  refine gv_if_ne 12 S 17 h dX11_readLoft_12 (by decide) (fun h => ?_) (fun h => ?_)
  · refine gv_aload_n 17 S 0 0 dX11_readLoft_17 rfl rfl ?_
    refine gv_aload_n 18 S 0 0 dX11_readLoft_18 rfl rfl ?_
    refine gv_iload_n 19 S 1 1 dX11_readLoft_19 rfl rfl ?_
    refine gv_iconst 20 S (1 : Int32) dX11_readLoft_20 (by decide) ?_
    refine gv_bipush 21 S (6 : Int32) dX11_readLoft_21 (by decide) ?_
    obtain ⟨r5, M6, hc7, h⟩ := bi_some h
    refine gv_cVi 23 S (As := [.int v1, .int (1 : Int32), .int (6 : Int32)]) (rest := [.ref (X.2.2 83)]) (c_X11_digit l X M3 v1 (1 : Int32) (6 : Int32) r5 M6 hc7) (hO_83 X) rfl (cwV 3 S.1.2.2.2.2 gX11_readLoft_X11_digit rfl rfl rfl (by decide +kernel) ⟨Nat.le_of_ble_eq_true rfl, Nat.le_of_ble_eq_true rfl⟩) rfl rfl (Nat.le_of_ble_eq_true rfl) dX11_readLoft_23 ?_
    refine gv_put 26 S h (hP_83_readHands X) mp_X11_readLoft_114 rfl rfl dX11_readLoft_26 (fun M8 h => ?_)
    refine gv_aload_n 29 S 0 0 dX11_readLoft_29 rfl rfl ?_
    refine gv_get 30 S (hF_83_readHands X) mf_X11_readLoft_114 dX11_readLoft_30 ?_
    refine gv_bipush 33 S (-9 : Int32) dX11_readLoft_33 (by decide) ?_
    refine gv_icmp_ne 35 S 40 h dX11_readLoft_35 (by decide) (fun h => ?_) (fun h => ?_)
    · refine gv_aload_n 40 S 0 0 dX11_readLoft_40 rfl rfl ?_
      refine gv_aload_n 41 S 0 0 dX11_readLoft_41 rfl rfl ?_
      refine gv_iload_n 42 S 1 1 dX11_readLoft_42 rfl rfl ?_
      refine gv_iconst 43 S (1 : Int32) dX11_readLoft_43 (by decide) ?_
      refine gv_bipush 44 S (9 : Int32) dX11_readLoft_44 (by decide) ?_
      obtain ⟨r9, M10, hc11, h⟩ := bi_some h
      refine gv_cVi 46 S (As := [.int v1, .int (1 : Int32), .int (9 : Int32)]) (rest := [.ref (X.2.2 83)]) (c_X11_digit l X M8 v1 (1 : Int32) (9 : Int32) r9 M10 hc11) (hO_83 X) rfl (cwV 3 S.1.2.2.2.2 gX11_readLoft_X11_digit rfl rfl rfl (by decide +kernel) ⟨Nat.le_of_ble_eq_true rfl, Nat.le_of_ble_eq_true rfl⟩) rfl rfl (Nat.le_of_ble_eq_true rfl) dX11_readLoft_46 ?_
      refine gv_put 49 S h (hP_83_readTrim X) mp_X11_readLoft_120 rfl rfl dX11_readLoft_49 (fun M12 h => ?_)
      refine gv_aload_n 52 S 0 0 dX11_readLoft_52 rfl rfl ?_
      refine gv_get 53 S (hF_83_readTrim X) mf_X11_readLoft_120 dX11_readLoft_53 ?_
      refine gv_bipush 56 S (-9 : Int32) dX11_readLoft_56 (by decide) ?_
      refine gv_icmp_ne 58 S 63 h dX11_readLoft_58 (by decide) (fun h => ?_) (fun h => ?_)
      · refine gv_aload_n 63 S 0 0 dX11_readLoft_63 rfl rfl ?_
        refine gv_aload_n 64 S 0 0 dX11_readLoft_64 rfl rfl ?_
        refine gv_iload_n 65 S 1 1 dX11_readLoft_65 rfl rfl ?_
        refine gv_iconst 66 S (0 : Int32) dX11_readLoft_66 (by decide) ?_
        refine gv_bipush 67 S (9 : Int32) dX11_readLoft_67 (by decide) ?_
        obtain ⟨r13, M14, hc15, h⟩ := bi_some h
        refine gv_cVi 69 S (As := [.int v1, .int (0 : Int32), .int (9 : Int32)]) (rest := [.ref (X.2.2 83)]) (c_X11_digit l X M12 v1 (0 : Int32) (9 : Int32) r13 M14 hc15) (hO_83 X) rfl (cwV 3 S.1.2.2.2.2 gX11_readLoft_X11_digit rfl rfl rfl (by decide +kernel) ⟨Nat.le_of_ble_eq_true rfl, Nat.le_of_ble_eq_true rfl⟩) rfl rfl (Nat.le_of_ble_eq_true rfl) dX11_readLoft_69 ?_
        refine gv_put 72 S h (hP_83_readStock X) mp_X11_readLoft_126 rfl rfl dX11_readLoft_72 (fun M16 h => ?_)
        refine gv_aload_n 75 S 0 0 dX11_readLoft_75 rfl rfl ?_
        refine gv_get 76 S (hF_83_readStock X) mf_X11_readLoft_126 dX11_readLoft_76 ?_
        refine gv_bipush 79 S (-9 : Int32) dX11_readLoft_79 (by decide) ?_
        refine gv_icmp_ne 81 S 86 h dX11_readLoft_81 (by decide) (fun h => ?_) (fun h => ?_)
        · exact gv_sub [0, 1] rfl (t_X11_readLoft_86 S FU M16 v1 h)
        · refine gv_iconst 84 S (0 : Int32) dX11_readLoft_84 (by decide) ?_
          exact gv_zret 85 S h rfl dX11_readLoft_85
      · refine gv_iconst 61 S (0 : Int32) dX11_readLoft_61 (by decide) ?_
        exact gv_zret 62 S h rfl dX11_readLoft_62
    · refine gv_iconst 38 S (0 : Int32) dX11_readLoft_38 (by decide) ?_
      exact gv_zret 39 S h rfl dX11_readLoft_39
  · refine gv_iconst 15 S (0 : Int32) dX11_readLoft_15 (by decide) ?_
    exact gv_zret 16 S h rfl dX11_readLoft_16
theorem mi_X11_takeLoft_11 : ∀ w ∈ u_ws RX11 TX11 39, w ∈ wsX11_takeLoft := by decide +kernel
theorem mf_X11_takeLoft_114 : MF wsX11_takeLoft RX11 114 10 15 := ⟨RX11, TX11, 39, rfl, by decide, mi_X11_takeLoft_11, by decide +kernel⟩
theorem mp_X11_takeLoft_117 : MP wsX11_takeLoft RX11 117 10 6 .int := ⟨RX11, TX11, 39, tyX11, rfl, by decide, mi_X11_takeLoft_11, by decide +kernel, tyX11_ok, nmX11, rfl, by decide +kernel⟩
theorem mf_X11_takeLoft_120 : MF wsX11_takeLoft RX11 120 10 16 := ⟨RX11, TX11, 39, rfl, by decide, mi_X11_takeLoft_11, by decide +kernel⟩
theorem mp_X11_takeLoft_123 : MP wsX11_takeLoft RX11 123 10 7 .int := ⟨RX11, TX11, 39, tyX11, rfl, by decide, mi_X11_takeLoft_11, by decide +kernel, tyX11_ok, nmX11, rfl, by decide +kernel⟩
theorem mf_X11_takeLoft_126 : MF wsX11_takeLoft RX11 126 10 17 := ⟨RX11, TX11, 39, rfl, by decide, mi_X11_takeLoft_11, by decide +kernel⟩
theorem mp_X11_takeLoft_129 : MP wsX11_takeLoft RX11 129 10 8 .int := ⟨RX11, TX11, 39, tyX11, rfl, by decide, mi_X11_takeLoft_11, by decide +kernel, tyX11_ok, nmX11, rfl, by decide +kernel⟩
theorem mf_X11_takeLoft_132 : MF wsX11_takeLoft RX11 132 10 18 := ⟨RX11, TX11, 39, rfl, by decide, mi_X11_takeLoft_11, by decide +kernel⟩
theorem mp_X11_takeLoft_87 : MP wsX11_takeLoft RX11 87 10 5 .int := ⟨RX11, TX11, 39, tyX11, rfl, by decide, mi_X11_takeLoft_11, by decide +kernel, tyX11_ok, nmX11, rfl, by decide +kernel⟩
theorem mf_X11_takeLoft_87 : MF wsX11_takeLoft RX11 87 10 5 := ⟨RX11, TX11, 39, rfl, by decide, mi_X11_takeLoft_11, by decide +kernel⟩
theorem mp_X11_takeLoft_135 : MP wsX11_takeLoft RX11 135 10 21 .int := ⟨RX11, TX11, 39, tyX11, rfl, by decide, mi_X11_takeLoft_11, by decide +kernel, tyX11_ok, nmX11, rfl, by decide +kernel⟩
theorem mf_X11_takeLoft_43 : MF wsX11_takeLoft RX11 43 10 23 := ⟨RX11, TX11, 39, rfl, by decide, mi_X11_takeLoft_11, by decide +kernel⟩
theorem mp_X11_takeLoft_138 : MP wsX11_takeLoft RX11 138 10 35 .int := ⟨RX11, TX11, 39, tyX11, rfl, by decide, mi_X11_takeLoft_11, by decide +kernel, tyX11_ok, nmX11, rfl, by decide +kernel⟩
theorem mf_X11_takeLoft_19 : MF wsX11_takeLoft RX11 19 10 9 := ⟨RX11, TX11, 39, rfl, by decide, mi_X11_takeLoft_11, by decide +kernel⟩
theorem mf_X11_takeLoft_34 : MF wsX11_takeLoft RX11 34 10 19 := ⟨RX11, TX11, 39, rfl, by decide, mi_X11_takeLoft_11, by decide +kernel⟩
theorem mf_X11_takeLoft_22 : MF wsX11_takeLoft RX11 22 10 10 := ⟨RX11, TX11, 39, rfl, by decide, mi_X11_takeLoft_11, by decide +kernel⟩
theorem mf_X11_takeLoft_25 : MF wsX11_takeLoft RX11 25 10 11 := ⟨RX11, TX11, 39, rfl, by decide, mi_X11_takeLoft_11, by decide +kernel⟩
theorem mf_X11_takeLoft_28 : MF wsX11_takeLoft RX11 28 10 12 := ⟨RX11, TX11, 39, rfl, by decide, mi_X11_takeLoft_11, by decide +kernel⟩
theorem mf_X11_takeLoft_31 : MF wsX11_takeLoft RX11 31 10 13 := ⟨RX11, TX11, 39, rfl, by decide, mi_X11_takeLoft_11, by decide +kernel⟩
abbrev rm_X11_takeLoft : Room := { frames := 0, cells := 0, slots := 0, locals := 0 }
set_option maxHeartbeats 4000000 in
set_option maxRecDepth 100000 in
theorem t_X11_takeLoft_34 {p : Program} {l : Launch} {e : Env} {s : State} {m : MethodId} {args : Array Value} {below : List Frame} {meth : Method} {c : Code} {X : GE} {M' : MM} (S : CX p s m args meth c cX11_takeLoft 2 wsX11_takeLoft RX11 none X) : ∀ (n : Nat) (M : MM) (v1 : Int32) (h : g_X11_takeLoft_34 n M v1 = some M'), V p l e (headSpec wsX11_takeLoft rm_X11_takeLoft).room s m args below meth c 2 X (MQ below (gQv X M') args s 0 0 (gA X)) M 34 [(0, .ref (X.2.2 83)), (1, .int v1)] [] := by
  intro n
  induction n with
  | zero =>
    intro M v1 h
    rw [g_X11_takeLoft_34] at h
    cases h
  | succ n ih =>
    intro M v1 h
    rw [g_X11_takeLoft_34] at h
    refine gv_iload_n 34 S 1 1 dX11_takeLoft_34 rfl rfl ?_
    refine gv_aload_n 35 S 0 0 dX11_takeLoft_35 rfl rfl ?_
    refine gv_get 36 S (hF_83_battens X) mf_X11_takeLoft_87 dX11_takeLoft_36 ?_
    refine gv_icmp_ge 39 S 126 h dX11_takeLoft_39 (by decide) (fun h => ?_) (fun h => ?_)
    · refine gv_aload_n 126 S 0 0 dX11_takeLoft_126 rfl rfl ?_
      refine gv_iconst 127 S (0 : Int32) dX11_takeLoft_127 (by decide) ?_
      refine gv_put 128 S h (hP_83_known X) mp_X11_takeLoft_135 rfl rfl dX11_takeLoft_128 (fun M5 h => ?_)
      refine gv_aload_n 131 S 0 0 dX11_takeLoft_131 rfl rfl ?_
      refine gv_get 132 S (hF_83_isKept X) mf_X11_takeLoft_43 dX11_takeLoft_132 ?_
      refine gv_iconst 135 S (0 : Int32) dX11_takeLoft_135 (by decide) ?_
      refine gv_iconst 136 S (0 : Int32) dX11_takeLoft_136 (by decide) ?_
      refine gv_zast 137 S h (by decide) (hZ_95 X) dX11_takeLoft_137 (fun M6 h => ?_)
      refine gv_aload_n 138 S 0 0 dX11_takeLoft_138 rfl rfl ?_
      refine gv_get 139 S (hF_83_isKept X) mf_X11_takeLoft_43 dX11_takeLoft_139 ?_
      refine gv_iconst 142 S (1 : Int32) dX11_takeLoft_142 (by decide) ?_
      refine gv_iconst 143 S (0 : Int32) dX11_takeLoft_143 (by decide) ?_
      refine gv_zast 144 S h (by decide) (hZ_95 X) dX11_takeLoft_144 (fun M7 h => ?_)
      refine gv_aload_n 145 S 0 0 dX11_takeLoft_145 rfl rfl ?_
      refine gv_iconst 146 S (0 : Int32) dX11_takeLoft_146 (by decide) ?_
      refine gv_put 147 S h (hP_83_readings X) mp_X11_takeLoft_138 rfl rfl dX11_takeLoft_147 (fun M8 h => ?_)
      exact gv_vret 150 S h dX11_takeLoft_150
    · refine gv_aload_n 42 S 0 0 dX11_takeLoft_42 rfl rfl ?_
      refine gv_get 43 S (hF_83_kind X) mf_X11_takeLoft_19 dX11_takeLoft_43 ?_
      refine gv_iload_n 46 S 1 1 dX11_takeLoft_46 rfl rfl ?_
      refine gv_aload_n 47 S 0 0 dX11_takeLoft_47 rfl rfl ?_
      refine gv_get 48 S (hF_83_read X) mf_X11_takeLoft_34 dX11_takeLoft_48 ?_
      refine gv_iconst 51 S (5 : Int32) dX11_takeLoft_51 (by decide) ?_
      refine gv_iload_n 52 S 1 1 dX11_takeLoft_52 rfl rfl ?_
      refine gv_imul 53 S dX11_takeLoft_53 ?_
      refine gv_iald 54 S h (hI_92 X) dX11_takeLoft_54 (fun h => ?_)
      refine gv_iast 55 S h (hI_87 X) dX11_takeLoft_55 (fun M9 h => ?_)
      refine gv_aload_n 56 S 0 0 dX11_takeLoft_56 rfl rfl ?_
      refine gv_get 57 S (hF_83_load X) mf_X11_takeLoft_22 dX11_takeLoft_57 ?_
      refine gv_iload_n 60 S 1 1 dX11_takeLoft_60 rfl rfl ?_
      refine gv_aload_n 61 S 0 0 dX11_takeLoft_61 rfl rfl ?_
      refine gv_get 62 S (hF_83_read X) mf_X11_takeLoft_34 dX11_takeLoft_62 ?_
      refine gv_iconst 65 S (5 : Int32) dX11_takeLoft_65 (by decide) ?_
      refine gv_iload_n 66 S 1 1 dX11_takeLoft_66 rfl rfl ?_
      refine gv_imul 67 S dX11_takeLoft_67 ?_
      refine gv_iconst 68 S (1 : Int32) dX11_takeLoft_68 (by decide) ?_
      refine gv_iadd 69 S dX11_takeLoft_69 ?_
      refine gv_iald 70 S h (hI_92 X) dX11_takeLoft_70 (fun h => ?_)
      refine gv_iast 71 S h (hI_88 X) dX11_takeLoft_71 (fun M10 h => ?_)
      refine gv_aload_n 72 S 0 0 dX11_takeLoft_72 rfl rfl ?_
      refine gv_get 73 S (hF_83_bricks X) mf_X11_takeLoft_25 dX11_takeLoft_73 ?_
      refine gv_iload_n 76 S 1 1 dX11_takeLoft_76 rfl rfl ?_
      refine gv_aload_n 77 S 0 0 dX11_takeLoft_77 rfl rfl ?_
      refine gv_get 78 S (hF_83_read X) mf_X11_takeLoft_34 dX11_takeLoft_78 ?_
      refine gv_iconst 81 S (5 : Int32) dX11_takeLoft_81 (by decide) ?_
      refine gv_iload_n 82 S 1 1 dX11_takeLoft_82 rfl rfl ?_
      refine gv_imul 83 S dX11_takeLoft_83 ?_
      refine gv_iconst 84 S (2 : Int32) dX11_takeLoft_84 (by decide) ?_
      refine gv_iadd 85 S dX11_takeLoft_85 ?_
      refine gv_iald 86 S h (hI_92 X) dX11_takeLoft_86 (fun h => ?_)
      refine gv_iast 87 S h (hI_89 X) dX11_takeLoft_87 (fun M11 h => ?_)
      refine gv_aload_n 88 S 0 0 dX11_takeLoft_88 rfl rfl ?_
      refine gv_get 89 S (hF_83_height X) mf_X11_takeLoft_28 dX11_takeLoft_89 ?_
      refine gv_iload_n 92 S 1 1 dX11_takeLoft_92 rfl rfl ?_
      refine gv_aload_n 93 S 0 0 dX11_takeLoft_93 rfl rfl ?_
      refine gv_get 94 S (hF_83_read X) mf_X11_takeLoft_34 dX11_takeLoft_94 ?_
      refine gv_iconst 97 S (5 : Int32) dX11_takeLoft_97 (by decide) ?_
      refine gv_iload_n 98 S 1 1 dX11_takeLoft_98 rfl rfl ?_
      refine gv_imul 99 S dX11_takeLoft_99 ?_
      refine gv_iconst 100 S (3 : Int32) dX11_takeLoft_100 (by decide) ?_
      refine gv_iadd 101 S dX11_takeLoft_101 ?_
      refine gv_iald 102 S h (hI_92 X) dX11_takeLoft_102 (fun h => ?_)
      refine gv_iast 103 S h (hI_90 X) dX11_takeLoft_103 (fun M12 h => ?_)
      refine gv_aload_n 104 S 0 0 dX11_takeLoft_104 rfl rfl ?_
      refine gv_get 105 S (hF_83_drop X) mf_X11_takeLoft_31 dX11_takeLoft_105 ?_
      refine gv_iload_n 108 S 1 1 dX11_takeLoft_108 rfl rfl ?_
      refine gv_aload_n 109 S 0 0 dX11_takeLoft_109 rfl rfl ?_
      refine gv_get 110 S (hF_83_read X) mf_X11_takeLoft_34 dX11_takeLoft_110 ?_
      refine gv_iconst 113 S (5 : Int32) dX11_takeLoft_113 (by decide) ?_
      refine gv_iload_n 114 S 1 1 dX11_takeLoft_114 rfl rfl ?_
      refine gv_imul 115 S dX11_takeLoft_115 ?_
      refine gv_iconst 116 S (4 : Int32) dX11_takeLoft_116 (by decide) ?_
      refine gv_iadd 117 S dX11_takeLoft_117 ?_
      refine gv_iald 118 S h (hI_92 X) dX11_takeLoft_118 (fun h => ?_)
      refine gv_iast 119 S h (hI_91 X) dX11_takeLoft_119 (fun M13 h => ?_)
      refine gv_iinc 120 S 1 (v1 + (1 : Int32)) (lv' := [(1, .int (v1 + (1 : Int32))), (0, .ref (X.2.2 83))]) dX11_takeLoft_120 rfl rfl (Nat.le_of_ble_eq_true rfl) rfl ?_
      refine gv_goto 123 S 34 dX11_takeLoft_123 (by decide) ?_
      exact gv_sub [1, 0] rfl (ih M13 (v1 + (1 : Int32)) h)
set_option maxHeartbeats 4000000 in
set_option maxRecDepth 100000 in
theorem c_X11_takeLoft (l : Launch) (X : GE) (M : MM) (M' : MM) (h : f_X11_takeLoft M = some M') : CTv l yX11_takeLoft wsX11_takeLoft rm_X11_takeLoft X [.ref (X.2.2 83)] M M' := by
  refine ct_v (own := RX11) (by decide +kernel) rfl rfl (Nat.le_of_ble_eq_true rfl) (lv0 := [(0, .ref (X.2.2 83))]) rfl ?_
  intro p e s m args below meth c S
  unfold f_X11_takeLoft at h
  refine gv_aload_n 0 S 0 0 dX11_takeLoft_0 rfl rfl ?_
  refine gv_aload_n 1 S 0 0 dX11_takeLoft_1 rfl rfl ?_
  refine gv_get 2 S (hF_83_readHands X) mf_X11_takeLoft_114 dX11_takeLoft_2 ?_
  refine gv_put 5 S h (hP_83_hands X) mp_X11_takeLoft_117 rfl rfl dX11_takeLoft_5 (fun M1 h => ?_)
  refine gv_aload_n 8 S 0 0 dX11_takeLoft_8 rfl rfl ?_
  refine gv_aload_n 9 S 0 0 dX11_takeLoft_9 rfl rfl ?_
  refine gv_get 10 S (hF_83_readTrim X) mf_X11_takeLoft_120 dX11_takeLoft_10 ?_
  refine gv_put 13 S h (hP_83_trimNow X) mp_X11_takeLoft_123 rfl rfl dX11_takeLoft_13 (fun M2 h => ?_)
  refine gv_aload_n 16 S 0 0 dX11_takeLoft_16 rfl rfl ?_
  refine gv_aload_n 17 S 0 0 dX11_takeLoft_17 rfl rfl ?_
  refine gv_get 18 S (hF_83_readStock X) mf_X11_takeLoft_126 dX11_takeLoft_18 ?_
  refine gv_put 21 S h (hP_83_stock X) mp_X11_takeLoft_129 rfl rfl dX11_takeLoft_21 (fun M3 h => ?_)
  refine gv_aload_n 24 S 0 0 dX11_takeLoft_24 rfl rfl ?_
  refine gv_aload_n 25 S 0 0 dX11_takeLoft_25 rfl rfl ?_
  refine gv_get 26 S (hF_83_readBattens X) mf_X11_takeLoft_132 dX11_takeLoft_26 ?_
  refine gv_put 29 S h (hP_83_battens X) mp_X11_takeLoft_87 rfl rfl dX11_takeLoft_29 (fun M4 h => ?_)
  refine gv_iconst 32 S (0 : Int32) dX11_takeLoft_32 (by decide) ?_
  refine gv_istore_n 33 S 1 (lv' := [(1, .int (0 : Int32)), (0, .ref (X.2.2 83))]) dX11_takeLoft_33 rfl (Nat.le_of_ble_eq_true rfl) rfl ?_
  exact gv_sub [1, 0] rfl (t_X11_takeLoft_34 S FU M4 (0 : Int32) h)
theorem mi_X11_loft_11 : ∀ w ∈ u_ws RX11 TX11 39, w ∈ wsX11_loft := by decide +kernel
theorem mp_X11_loft_77 : MP wsX11_loft RX11 77 10 0 .int := ⟨RX11, TX11, 39, tyX11, rfl, by decide, mi_X11_loft_11, by decide +kernel, tyX11_ok, nmX11, rfl, by decide +kernel⟩
theorem mp_X11_loft_90 : MP wsX11_loft RX11 90 10 14 .int := ⟨RX11, TX11, 39, tyX11, rfl, by decide, mi_X11_loft_11, by decide +kernel, tyX11_ok, nmX11, rfl, by decide +kernel⟩
theorem mf_X11_loft_87 : MF wsX11_loft RX11 87 10 5 := ⟨RX11, TX11, 39, rfl, by decide, mi_X11_loft_11, by decide +kernel⟩
theorem mf_X11_loft_90 : MF wsX11_loft RX11 90 10 14 := ⟨RX11, TX11, 39, rfl, by decide, mi_X11_loft_11, by decide +kernel⟩
abbrev rm_X11_loft : Room := { frames := 4, cells := 0, slots := 0, locals := 90 }
set_option maxHeartbeats 4000000 in
set_option maxRecDepth 100000 in
theorem c_X11_loft (l : Launch) (X : GE) (M : MM) (v1 : Int32) (v2 : Int32) (v3 : Int32) (v4 : Int32) (r : Int32) (M' : MM) (h : f_X11_loft M v1 v2 v3 v4 = some (r, M')) : CTi l yX11_loft wsX11_loft rm_X11_loft X [.ref (X.2.2 83), .int v1, .int v2, .int v3, .int v4] M r M' := by
  refine ct_i (own := RX11) (by decide +kernel) rfl rfl (Nat.le_of_ble_eq_true rfl) (lv0 := [(0, .ref (X.2.2 83)), (1, .int v1), (2, .int v2), (3, .int v3), (4, .int v4)]) rfl ?_
  intro p e s m args below meth c S
  unfold f_X11_loft at h
  refine gv_aload_n 0 S 0 0 dX11_loft_0 rfl rfl ?_
  refine gv_iconst 1 S (0 : Int32) dX11_loft_1 (by decide) ?_
  refine gv_put 2 S h (hP_83_fault X) mp_X11_loft_77 rfl rfl dX11_loft_2 (fun M1 h => ?_)
  refine gv_iload_n 5 S 1 1 dX11_loft_5 rfl rfl ?_
  obtain ⟨r2, hc3, h⟩ := br_some h
  refine gv_cSi 6 S (As := [.int v1]) (rest := []) (c_X11_isSheet l X M1 v1 r2 hc3) (va_cwS 1 S.1.2.2.2.2 gX11_loft_X11_isSheet rfl rfl rfl (by decide +kernel) ⟨Nat.le_of_ble_eq_true rfl, Nat.le_of_ble_eq_true rfl⟩) rfl rfl (Nat.le_of_ble_eq_true rfl) dX11_loft_6 ?_
  refine gv_if_ne 9 S 14 h dX11_loft_9 (by decide) (fun h => ?_) (fun h => ?_)
  · refine gv_iload_n 14 S 2 2 dX11_loft_14 rfl rfl ?_
    obtain ⟨r4, hc5, h⟩ := br_some h
    refine gv_cSi 15 S (As := [.int v2]) (rest := []) (c_X11_isSort l X M1 v2 r4 hc5) (va_cwS 1 S.1.2.2.2.2 gX11_loft_X11_isSort rfl rfl rfl (by decide +kernel) ⟨Nat.le_of_ble_eq_true rfl, Nat.le_of_ble_eq_true rfl⟩) rfl rfl (Nat.le_of_ble_eq_true rfl) dX11_loft_15 ?_
    refine gv_if_ne 18 S 24 h dX11_loft_18 (by decide) (fun h => ?_) (fun h => ?_)
    · refine gv_aload_n 24 S 0 0 dX11_loft_24 rfl rfl ?_
      refine gv_iload_n 25 S 1 1 dX11_loft_25 rfl rfl ?_
      refine gv_iload_n 26 S 2 2 dX11_loft_26 rfl rfl ?_
      refine gv_iload_n 27 S 3 3 dX11_loft_27 rfl rfl ?_
      refine gv_iload 28 S 4 dX11_loft_28 rfl ?_
      obtain ⟨r6, hc7, h⟩ := br_some h
      refine gv_cVi 30 S (As := [.int v1, .int v2, .int v3, .int v4]) (rest := []) (c_X11_against l X M1 v1 v2 v3 v4 r6 hc7) (hO_83 X) rfl (cwV 4 S.1.2.2.2.2 gX11_loft_X11_against rfl rfl rfl (by decide +kernel) ⟨Nat.le_of_ble_eq_true rfl, Nat.le_of_ble_eq_true rfl⟩) rfl rfl (Nat.le_of_ble_eq_true rfl) dX11_loft_30 ?_
      refine gv_istore 33 S (lv' := [(5, .int r6), (0, .ref (X.2.2 83)), (1, .int v1), (2, .int v2), (3, .int v3), (4, .int v4)]) dX11_loft_33 (Nat.le_of_ble_eq_true rfl) rfl ?_
      refine gv_iload 35 S 0 dX11_loft_35 rfl ?_
      refine gv_if_eq 37 S 47 h dX11_loft_37 (by decide) (fun h => ?_) (fun h => ?_)
      · refine gv_bipush 47 S (60 : Int32) dX11_loft_47 (by decide) ?_
        refine gv_iload_n 49 S 1 2 dX11_loft_49 rfl rfl ?_
        refine gv_imul 50 S dX11_loft_50 ?_
        refine gv_iload_n 51 S 3 4 dX11_loft_51 rfl rfl ?_
        refine gv_iadd 52 S dX11_loft_52 ?_
        refine gv_nmi h (fun x8 h => ?_)
        refine gv_istore 53 S (lv' := [(6, .int x8), (5, .int r6), (0, .ref (X.2.2 83)), (1, .int v1), (2, .int v2), (3, .int v3), (4, .int v4)]) dX11_loft_53 (Nat.le_of_ble_eq_true rfl) rfl ?_
        refine gv_aload_n 55 S 0 2 dX11_loft_55 rfl rfl ?_
        refine gv_iload 56 S 0 dX11_loft_56 rfl ?_
        refine gv_put 58 S h (hP_83_at X) mp_X11_loft_90 rfl rfl dX11_loft_58 (fun M9 h => ?_)
        refine gv_aload_n 61 S 0 2 dX11_loft_61 rfl rfl ?_
        refine gv_iload 62 S 0 dX11_loft_62 rfl ?_
        refine gv_iload 64 S 6 dX11_loft_64 rfl ?_
        refine gv_iadd 66 S dX11_loft_66 ?_
        obtain ⟨r10, M11, hc12, h⟩ := bi_some h
        refine gv_cVi 67 S (As := [.int (x8 + v4)]) (rest := []) (c_X11_readLoft l X M9 (x8 + v4) r10 M11 hc12) (hO_83 X) rfl (cwV 1 S.1.2.2.2.2 gX11_loft_X11_readLoft rfl rfl rfl (by decide +kernel) ⟨Nat.le_of_ble_eq_true rfl, Nat.le_of_ble_eq_true rfl⟩) rfl rfl (Nat.le_of_ble_eq_true rfl) dX11_loft_67 ?_
        refine gv_if_ne 70 S 84 h dX11_loft_70 (by decide) (fun h => ?_) (fun h => ?_)
        · refine gv_aload_n 84 S 0 2 dX11_loft_84 rfl rfl ?_
          obtain ⟨M14, hc15, h⟩ := br_some h
          refine gv_cVv 85 S (As := []) (rest := []) (c_X11_takeLoft l X M11 M14 hc15) (hO_83 X) rfl (cwV 0 S.1.2.2.2.2 gX11_loft_X11_takeLoft rfl rfl rfl (by decide +kernel) ⟨Nat.le_of_ble_eq_true rfl, Nat.le_of_ble_eq_true rfl⟩) rfl rfl (Nat.le_of_ble_eq_true rfl) dX11_loft_85 ?_
          refine gv_aload_n 88 S 0 2 dX11_loft_88 rfl rfl ?_
          refine gv_get 89 S (hF_83_battens X) mf_X11_loft_87 dX11_loft_89 ?_
          exact gv_iret 92 S h dX11_loft_92
        · refine gv_bipush 73 S (-100 : Int32) dX11_loft_73 (by decide) ?_
          refine gv_aload_n 75 S 0 2 dX11_loft_75 rfl rfl ?_
          refine gv_get 76 S (hF_83_at X) mf_X11_loft_90 dX11_loft_76 ?_
          refine gv_iload 79 S 0 dX11_loft_79 rfl ?_
          refine gv_isub 81 S dX11_loft_81 ?_
          refine gv_isub 82 S dX11_loft_82 ?_
          exact gv_iret 83 S h dX11_loft_83
      · refine gv_aload_n 40 S 0 1 dX11_loft_40 rfl rfl ?_
        refine gv_iload 41 S 0 dX11_loft_41 rfl ?_
        obtain ⟨r16, M17, hc18, h⟩ := bi_some h
        refine gv_cVi 43 S (As := [.int r6]) (rest := []) (c_X11_fails l X M1 r6 r16 M17 hc18) (hO_83 X) rfl (cwV 1 S.1.2.2.2.2 gX11_loft_X11_fails rfl rfl rfl (by decide +kernel) ⟨Nat.le_of_ble_eq_true rfl, Nat.le_of_ble_eq_true rfl⟩) rfl rfl (Nat.le_of_ble_eq_true rfl) dX11_loft_43 ?_
        exact gv_iret 46 S h dX11_loft_46
    · refine gv_bipush 21 S (-2 : Int32) dX11_loft_21 (by decide) ?_
      exact gv_iret 23 S h dX11_loft_23
  · refine gv_iconst 12 S (-1 : Int32) dX11_loft_12 (by decide) ?_
    exact gv_iret 13 S h dX11_loft_13
theorem mi_X11_pullOf_11 : ∀ w ∈ u_ws RX11 TX11 39, w ∈ wsX11_pullOf := by decide +kernel
theorem mf_X11_pullOf_22 : MF wsX11_pullOf RX11 22 10 10 := ⟨RX11, TX11, 39, rfl, by decide, mi_X11_pullOf_11, by decide +kernel⟩
theorem mf_X11_pullOf_25 : MF wsX11_pullOf RX11 25 10 11 := ⟨RX11, TX11, 39, rfl, by decide, mi_X11_pullOf_11, by decide +kernel⟩
theorem mf_X11_pullOf_19 : MF wsX11_pullOf RX11 19 10 9 := ⟨RX11, TX11, 39, rfl, by decide, mi_X11_pullOf_11, by decide +kernel⟩
abbrev rm_X11_pullOf : Room := { frames := 0, cells := 0, slots := 0, locals := 0 }
set_option maxHeartbeats 4000000 in
set_option maxRecDepth 100000 in
theorem t_X11_pullOf_44 {p : Program} {l : Launch} {e : Env} {s : State} {m : MethodId} {args : Array Value} {below : List Frame} {meth : Method} {c : Code} {X : GE} {M : MM} {r : Int32} (S : CX p s m args meth c cX11_pullOf 3 wsX11_pullOf RX11 (some .int) X) (v1 : Int32) (s0 : Int32) (h : g_X11_pullOf_44 M v1 s0 = some r) : V p l e (headSpec wsX11_pullOf rm_X11_pullOf).room s m args below meth c 3 X (MQ below (gQi X r M) args s 0 0 (gA X)) M 44 [(0, .ref (X.2.2 83)), (1, .int v1)] [.int s0] := by
  unfold g_X11_pullOf_44 at h
  refine gv_istore_n 44 S 2 (lv' := [(2, .int s0), (0, .ref (X.2.2 83)), (1, .int v1)]) dX11_pullOf_44 rfl (Nat.le_of_ble_eq_true rfl) rfl ?_
  refine gv_aload_n 45 S 0 1 dX11_pullOf_45 rfl rfl ?_
  refine gv_get 46 S (hF_83_kind X) mf_X11_pullOf_19 dX11_pullOf_46 ?_
  refine gv_iload_n 49 S 1 2 dX11_pullOf_49 rfl rfl ?_
  refine gv_iald 50 S h (hI_87 X) dX11_pullOf_50 (fun h => ?_)
  refine gv_iconst 51 S (1 : Int32) dX11_pullOf_51 (by decide) ?_
  refine gv_icmp_ne 52 S 67 h dX11_pullOf_52 (by decide) (fun h => ?_) (fun h => ?_)
  · refine gv_aload_n 67 S 0 1 dX11_pullOf_67 rfl rfl ?_
    refine gv_get 68 S (hF_83_kind X) mf_X11_pullOf_19 dX11_pullOf_68 ?_
    refine gv_iload_n 71 S 1 2 dX11_pullOf_71 rfl rfl ?_
    refine gv_iald 72 S h (hI_87 X) dX11_pullOf_72 (fun h => ?_)
    refine gv_if_ne 73 S 80 h dX11_pullOf_73 (by decide) (fun h => ?_) (fun h => ?_)
    · refine gv_iload_n 80 S 2 0 dX11_pullOf_80 rfl rfl ?_
      refine gv_iconst 81 S (2 : Int32) dX11_pullOf_81 (by decide) ?_
      refine gv_idiv 82 S (by decide) dX11_pullOf_82 ?_
      exact gv_iretR 83 S h dX11_pullOf_83
    · refine gv_iload_n 76 S 2 0 dX11_pullOf_76 rfl rfl ?_
      refine gv_goto 77 S 83 dX11_pullOf_77 (by decide) ?_
      exact gv_iretR 83 S h dX11_pullOf_83
  · refine gv_iload_n 55 S 2 0 dX11_pullOf_55 rfl rfl ?_
    refine gv_if_le 56 S 65 h dX11_pullOf_56 (by decide) (fun h => ?_) (fun h => ?_)
    · refine gv_iconst 65 S (0 : Int32) dX11_pullOf_65 (by decide) ?_
      exact gv_iretR 66 S h dX11_pullOf_66
    · refine gv_iload_n 59 S 2 0 dX11_pullOf_59 rfl rfl ?_
      refine gv_iconst 60 S (1 : Int32) dX11_pullOf_60 (by decide) ?_
      refine gv_isub 61 S dX11_pullOf_61 ?_
      refine gv_goto 62 S 66 dX11_pullOf_62 (by decide) ?_
      exact gv_iretR 66 S h dX11_pullOf_66
set_option maxHeartbeats 4000000 in
set_option maxRecDepth 100000 in
theorem c_X11_pullOf (l : Launch) (X : GE) (M : MM) (v1 : Int32) (r : Int32) (h : f_X11_pullOf M v1 = some r) : CTi l yX11_pullOf wsX11_pullOf rm_X11_pullOf X [.ref (X.2.2 83), .int v1] M r M := by
  refine ct_i (own := RX11) (by decide +kernel) rfl rfl (Nat.le_of_ble_eq_true rfl) (lv0 := [(0, .ref (X.2.2 83)), (1, .int v1)]) rfl ?_
  intro p e s m args below meth c S
  unfold f_X11_pullOf at h
  refine gv_aload_n 0 S 0 0 dX11_pullOf_0 rfl rfl ?_
  refine gv_get 1 S (hF_83_load X) mf_X11_pullOf_22 dX11_pullOf_1 ?_
  refine gv_iload_n 4 S 1 1 dX11_pullOf_4 rfl rfl ?_
  refine gv_iald 5 S h (hI_88 X) dX11_pullOf_5 (fun h => ?_)
  refine gv_aload_n 6 S 0 0 dX11_pullOf_6 rfl rfl ?_
  refine gv_get 7 S (hF_83_bricks X) mf_X11_pullOf_25 dX11_pullOf_7 ?_
  refine gv_iload_n 10 S 1 1 dX11_pullOf_10 rfl rfl ?_
  refine gv_iald 11 S h (hI_89 X) dX11_pullOf_11 (fun h => ?_)
  refine gv_icmp_le 12 S 31 h dX11_pullOf_12 (by decide) (fun h => ?_) (fun h => ?_)
  · refine gv_aload_n 31 S 0 0 dX11_pullOf_31 rfl rfl ?_
    refine gv_get 32 S (hF_83_bricks X) mf_X11_pullOf_25 dX11_pullOf_32 ?_
    refine gv_iload_n 35 S 1 1 dX11_pullOf_35 rfl rfl ?_
    refine gv_iald 36 S h (hI_89 X) dX11_pullOf_36 (fun h => ?_)
    refine gv_aload_n 37 S 0 0 dX11_pullOf_37 rfl rfl ?_
    refine gv_get 38 S (hF_83_load X) mf_X11_pullOf_22 dX11_pullOf_38 ?_
    refine gv_iload_n 41 S 1 1 dX11_pullOf_41 rfl rfl ?_
    refine gv_iald 42 S h (hI_88 X) dX11_pullOf_42 (fun h => ?_)
    refine gv_isub 43 S dX11_pullOf_43 ?_
    exact gv_sub [0, 1] rfl (t_X11_pullOf_44 S v1 ((M 89 v1.toNatClampNeg) - (M 88 v1.toNatClampNeg)) h)
  · refine gv_aload_n 15 S 0 0 dX11_pullOf_15 rfl rfl ?_
    refine gv_get 16 S (hF_83_load X) mf_X11_pullOf_22 dX11_pullOf_16 ?_
    refine gv_iload_n 19 S 1 1 dX11_pullOf_19 rfl rfl ?_
    refine gv_iald 20 S h (hI_88 X) dX11_pullOf_20 (fun h => ?_)
    refine gv_aload_n 21 S 0 0 dX11_pullOf_21 rfl rfl ?_
    refine gv_get 22 S (hF_83_bricks X) mf_X11_pullOf_25 dX11_pullOf_22 ?_
    refine gv_iload_n 25 S 1 1 dX11_pullOf_25 rfl rfl ?_
    refine gv_iald 26 S h (hI_89 X) dX11_pullOf_26 (fun h => ?_)
    refine gv_isub 27 S dX11_pullOf_27 ?_
    refine gv_goto 28 S 44 dX11_pullOf_28 (by decide) ?_
    exact gv_sub [0, 1] rfl (t_X11_pullOf_44 S v1 ((M 88 v1.toNatClampNeg) - (M 89 v1.toNatClampNeg)) h)
theorem mi_X11_edgeOf_11 : ∀ w ∈ u_ws RX11 TX11 39, w ∈ wsX11_edgeOf := by decide +kernel
theorem mf_X11_edgeOf_28 : MF wsX11_edgeOf RX11 28 10 12 := ⟨RX11, TX11, 39, rfl, by decide, mi_X11_edgeOf_11, by decide +kernel⟩
theorem mf_X11_edgeOf_31 : MF wsX11_edgeOf RX11 31 10 13 := ⟨RX11, TX11, 39, rfl, by decide, mi_X11_edgeOf_11, by decide +kernel⟩
abbrev rm_X11_edgeOf : Room := { frames := 0, cells := 0, slots := 0, locals := 0 }
set_option maxHeartbeats 4000000 in
set_option maxRecDepth 100000 in
theorem c_X11_edgeOf (l : Launch) (X : GE) (M : MM) (v1 : Int32) (r : Int32) (h : f_X11_edgeOf M v1 = some r) : CTi l yX11_edgeOf wsX11_edgeOf rm_X11_edgeOf X [.ref (X.2.2 83), .int v1] M r M := by
  refine ct_i (own := RX11) (by decide +kernel) rfl rfl (Nat.le_of_ble_eq_true rfl) (lv0 := [(0, .ref (X.2.2 83)), (1, .int v1)]) rfl ?_
  intro p e s m args below meth c S
  unfold f_X11_edgeOf at h
  refine gv_aload_n 0 S 0 0 dX11_edgeOf_0 rfl rfl ?_
  refine gv_get 1 S (hF_83_height X) mf_X11_edgeOf_28 dX11_edgeOf_1 ?_
  refine gv_iload_n 4 S 1 1 dX11_edgeOf_4 rfl rfl ?_
  refine gv_iald 5 S h (hI_90 X) dX11_edgeOf_5 (fun h => ?_)
  refine gv_aload_n 6 S 0 0 dX11_edgeOf_6 rfl rfl ?_
  refine gv_get 7 S (hF_83_drop X) mf_X11_edgeOf_31 dX11_edgeOf_7 ?_
  refine gv_iload_n 10 S 1 1 dX11_edgeOf_10 rfl rfl ?_
  refine gv_iald 11 S h (hI_91 X) dX11_edgeOf_11 (fun h => ?_)
  refine gv_icmp_le 12 S 31 h dX11_edgeOf_12 (by decide) (fun h => ?_) (fun h => ?_)
  · refine gv_iconst 31 S (0 : Int32) dX11_edgeOf_31 (by decide) ?_
    exact gv_iretR 32 S h dX11_edgeOf_32
  · refine gv_aload_n 15 S 0 0 dX11_edgeOf_15 rfl rfl ?_
    refine gv_get 16 S (hF_83_height X) mf_X11_edgeOf_28 dX11_edgeOf_16 ?_
    refine gv_iload_n 19 S 1 1 dX11_edgeOf_19 rfl rfl ?_
    refine gv_iald 20 S h (hI_90 X) dX11_edgeOf_20 (fun h => ?_)
    refine gv_aload_n 21 S 0 0 dX11_edgeOf_21 rfl rfl ?_
    refine gv_get 22 S (hF_83_drop X) mf_X11_edgeOf_31 dX11_edgeOf_22 ?_
    refine gv_iload_n 25 S 1 1 dX11_edgeOf_25 rfl rfl ?_
    refine gv_iald 26 S h (hI_91 X) dX11_edgeOf_26 (fun h => ?_)
    refine gv_isub 27 S dX11_edgeOf_27 ?_
    refine gv_goto 28 S 32 dX11_edgeOf_28 (by decide) ?_
    exact gv_iretR 32 S h dX11_edgeOf_32
theorem mi_X11_ofBatten_11 : ∀ w ∈ u_ws RX11 TX11 39, w ∈ wsX11_ofBatten := by decide +kernel
theorem mf_X11_ofBatten_19 : MF wsX11_ofBatten RX11 19 10 9 := ⟨RX11, TX11, 39, rfl, by decide, mi_X11_ofBatten_11, by decide +kernel⟩
theorem mf_X11_ofBatten_22 : MF wsX11_ofBatten RX11 22 10 10 := ⟨RX11, TX11, 39, rfl, by decide, mi_X11_ofBatten_11, by decide +kernel⟩
theorem mf_X11_ofBatten_25 : MF wsX11_ofBatten RX11 25 10 11 := ⟨RX11, TX11, 39, rfl, by decide, mi_X11_ofBatten_11, by decide +kernel⟩
theorem mf_X11_ofBatten_28 : MF wsX11_ofBatten RX11 28 10 12 := ⟨RX11, TX11, 39, rfl, by decide, mi_X11_ofBatten_11, by decide +kernel⟩
theorem mf_X11_ofBatten_31 : MF wsX11_ofBatten RX11 31 10 13 := ⟨RX11, TX11, 39, rfl, by decide, mi_X11_ofBatten_11, by decide +kernel⟩
abbrev rm_X11_ofBatten : Room := { frames := 1, cells := 0, slots := 0, locals := 22 }
set_option maxHeartbeats 4000000 in
set_option maxRecDepth 100000 in
theorem c_X11_ofBatten (l : Launch) (X : GE) (M : MM) (v1 : Int32) (v2 : Int32) (r : Int32) (h : f_X11_ofBatten M v1 v2 = some r) : CTi l yX11_ofBatten wsX11_ofBatten rm_X11_ofBatten X [.ref (X.2.2 83), .int v1, .int v2] M r M := by
  refine ct_i (own := RX11) (by decide +kernel) rfl rfl (Nat.le_of_ble_eq_true rfl) (lv0 := [(0, .ref (X.2.2 83)), (1, .int v1), (2, .int v2)]) rfl ?_
  intro p e s m args below meth c S
  unfold f_X11_ofBatten at h
  refine gv_aload_n 0 S 0 0 dX11_ofBatten_0 rfl rfl ?_
  refine gv_iload_n 1 S 1 1 dX11_ofBatten_1 rfl rfl ?_
  obtain ⟨r1, hc2, h⟩ := br_some h
  refine gv_cVi 2 S (As := [.int v1]) (rest := []) (c_X11_isBatten l X M v1 r1 hc2) (hO_83 X) rfl (cwV 1 S.1.2.2.2.2 gX11_ofBatten_X11_isBatten rfl rfl rfl (by decide +kernel) ⟨Nat.le_of_ble_eq_true rfl, Nat.le_of_ble_eq_true rfl⟩) rfl rfl (Nat.le_of_ble_eq_true rfl) dX11_ofBatten_2 ?_
  refine gv_if_ne 5 S 10 h dX11_ofBatten_5 (by decide) (fun h => ?_) (fun h => ?_)
  · refine gv_iload_n 10 S 2 2 dX11_ofBatten_10 rfl rfl ?_
    by_cases hq3 : v2 = 0
    · rw [if_pos hq3] at h
      refine gv_tabIn 11 S 52 dX11_ofBatten_11 (by rw [hq3]; decide) (by rw [hq3]; decide) (by rw [hq3] <;> rfl) (by decide) ?_
      refine gv_aload_n 52 S 0 0 dX11_ofBatten_52 rfl rfl ?_
      refine gv_get 53 S (hF_83_kind X) mf_X11_ofBatten_19 dX11_ofBatten_53 ?_
      refine gv_iload_n 56 S 1 1 dX11_ofBatten_56 rfl rfl ?_
      refine gv_iald 57 S h (hI_87 X) dX11_ofBatten_57 (fun h => ?_)
      exact gv_iretR 58 S h dX11_ofBatten_58
    rw [if_neg hq3] at h
    by_cases hq4 : v2 = 1
    · rw [if_pos hq4] at h
      refine gv_tabIn 11 S 59 dX11_ofBatten_11 (by rw [hq4]; decide) (by rw [hq4]; decide) (by rw [hq4] <;> rfl) (by decide) ?_
      refine gv_aload_n 59 S 0 0 dX11_ofBatten_59 rfl rfl ?_
      refine gv_get 60 S (hF_83_load X) mf_X11_ofBatten_22 dX11_ofBatten_60 ?_
      refine gv_iload_n 63 S 1 1 dX11_ofBatten_63 rfl rfl ?_
      refine gv_iald 64 S h (hI_88 X) dX11_ofBatten_64 (fun h => ?_)
      exact gv_iretR 65 S h dX11_ofBatten_65
    rw [if_neg hq4] at h
    by_cases hq5 : v2 = 2
    · rw [if_pos hq5] at h
      refine gv_tabIn 11 S 66 dX11_ofBatten_11 (by rw [hq5]; decide) (by rw [hq5]; decide) (by rw [hq5] <;> rfl) (by decide) ?_
      refine gv_aload_n 66 S 0 0 dX11_ofBatten_66 rfl rfl ?_
      refine gv_get 67 S (hF_83_bricks X) mf_X11_ofBatten_25 dX11_ofBatten_67 ?_
      refine gv_iload_n 70 S 1 1 dX11_ofBatten_70 rfl rfl ?_
      refine gv_iald 71 S h (hI_89 X) dX11_ofBatten_71 (fun h => ?_)
      exact gv_iretR 72 S h dX11_ofBatten_72
    rw [if_neg hq5] at h
    by_cases hq6 : v2 = 3
    · rw [if_pos hq6] at h
      refine gv_tabIn 11 S 73 dX11_ofBatten_11 (by rw [hq6]; decide) (by rw [hq6]; decide) (by rw [hq6] <;> rfl) (by decide) ?_
      refine gv_aload_n 73 S 0 0 dX11_ofBatten_73 rfl rfl ?_
      refine gv_get 74 S (hF_83_height X) mf_X11_ofBatten_28 dX11_ofBatten_74 ?_
      refine gv_iload_n 77 S 1 1 dX11_ofBatten_77 rfl rfl ?_
      refine gv_iald 78 S h (hI_90 X) dX11_ofBatten_78 (fun h => ?_)
      exact gv_iretR 79 S h dX11_ofBatten_79
    rw [if_neg hq6] at h
    by_cases hq7 : v2 = 4
    · rw [if_pos hq7] at h
      refine gv_tabIn 11 S 80 dX11_ofBatten_11 (by rw [hq7]; decide) (by rw [hq7]; decide) (by rw [hq7] <;> rfl) (by decide) ?_
      refine gv_aload_n 80 S 0 0 dX11_ofBatten_80 rfl rfl ?_
      refine gv_get 81 S (hF_83_drop X) mf_X11_ofBatten_31 dX11_ofBatten_81 ?_
      refine gv_iload_n 84 S 1 1 dX11_ofBatten_84 rfl rfl ?_
      refine gv_iald 85 S h (hI_91 X) dX11_ofBatten_85 (fun h => ?_)
      exact gv_iretR 86 S h dX11_ofBatten_86
    rw [if_neg hq7] at h
    by_cases hq10 : v2 = 5
    · rw [if_pos hq10] at h
      refine gv_tabIn 11 S 87 dX11_ofBatten_11 (by rw [hq10]; decide) (by rw [hq10]; decide) (by rw [hq10] <;> rfl) (by decide) ?_
      refine gv_aload_n 87 S 0 0 dX11_ofBatten_87 rfl rfl ?_
      refine gv_iload_n 88 S 1 1 dX11_ofBatten_88 rfl rfl ?_
      obtain ⟨r8, hc9, h⟩ := br_some h
      refine gv_cVi 89 S (As := [.int v1]) (rest := []) (c_X11_pullOf l X M v1 r8 hc9) (hO_83 X) rfl (cwV 1 S.1.2.2.2.2 gX11_ofBatten_X11_pullOf rfl rfl rfl (by decide +kernel) ⟨Nat.le_of_ble_eq_true rfl, Nat.le_of_ble_eq_true rfl⟩) rfl rfl (Nat.le_of_ble_eq_true rfl) dX11_ofBatten_89 ?_
      exact gv_iretR 92 S h dX11_ofBatten_92
    rw [if_neg hq10] at h
    by_cases hq13 : v2 = 6
    · rw [if_pos hq13] at h
      refine gv_tabIn 11 S 93 dX11_ofBatten_11 (by rw [hq13]; decide) (by rw [hq13]; decide) (by rw [hq13] <;> rfl) (by decide) ?_
      refine gv_aload_n 93 S 0 0 dX11_ofBatten_93 rfl rfl ?_
      refine gv_iload_n 94 S 1 1 dX11_ofBatten_94 rfl rfl ?_
      obtain ⟨r11, hc12, h⟩ := br_some h
      refine gv_cVi 95 S (As := [.int v1]) (rest := []) (c_X11_edgeOf l X M v1 r11 hc12) (hO_83 X) rfl (cwV 1 S.1.2.2.2.2 gX11_ofBatten_X11_edgeOf rfl rfl rfl (by decide +kernel) ⟨Nat.le_of_ble_eq_true rfl, Nat.le_of_ble_eq_true rfl⟩) rfl rfl (Nat.le_of_ble_eq_true rfl) dX11_ofBatten_95 ?_
      exact gv_iretR 98 S h dX11_ofBatten_98
    rw [if_neg hq13] at h
    have hq3 : ¬ v2.toInt = 0 := lv_neT hq3 rfl
    have hq4 : ¬ v2.toInt = 1 := lv_neT hq4 rfl
    have hq5 : ¬ v2.toInt = 2 := lv_neT hq5 rfl
    have hq6 : ¬ v2.toInt = 3 := lv_neT hq6 rfl
    have hq7 : ¬ v2.toInt = 4 := lv_neT hq7 rfl
    have hq10 : ¬ v2.toInt = 5 := lv_neT hq10 rfl
    have hq13 : ¬ v2.toInt = 6 := lv_neT hq13 rfl
    refine gv_tabOut 11 S 99 dX11_ofBatten_11 (by omega) (by decide) ?_
    refine gv_bipush 99 S (-2 : Int32) dX11_ofBatten_99 (by decide) ?_
    exact gv_iretR 101 S h dX11_ofBatten_101
  · refine gv_iconst 8 S (-1 : Int32) dX11_ofBatten_8 (by decide) ?_
    exact gv_iretR 9 S h dX11_ofBatten_9
theorem mi_X11_seenNow_11 : ∀ w ∈ u_ws RX11 TX11 39, w ∈ wsX11_seenNow := by decide +kernel
theorem mf_X11_seenNow_123 : MF wsX11_seenNow RX11 123 10 7 := ⟨RX11, TX11, 39, rfl, by decide, mi_X11_seenNow_11, by decide +kernel⟩
theorem mf_X11_seenNow_87 : MF wsX11_seenNow RX11 87 10 5 := ⟨RX11, TX11, 39, rfl, by decide, mi_X11_seenNow_11, by decide +kernel⟩
abbrev rm_X11_seenNow : Room := { frames := 1, cells := 0, slots := 0, locals := 21 }
set_option maxHeartbeats 4000000 in
set_option maxRecDepth 100000 in
theorem t_X11_seenNow_9 {p : Program} {l : Launch} {e : Env} {s : State} {m : MethodId} {args : Array Value} {below : List Frame} {meth : Method} {c : Code} {X : GE} {M : MM} {r : Int32} (S : CX p s m args meth c cX11_seenNow 4 wsX11_seenNow RX11 (some .int) X) : ∀ (n : Nat) (v1 : Int32) (v2 : Int32) (v3 : Int32) (h : g_X11_seenNow_9 M n v1 v2 v3 = some r), V p l e (headSpec wsX11_seenNow rm_X11_seenNow).room s m args below meth c 4 X (MQ below (gQi X r M) args s 0 0 (gA X)) M 9 [(0, .ref (X.2.2 83)), (1, .int v1), (2, .int v2), (3, .int v3)] [] := by
  intro n
  induction n with
  | zero =>
    intro v1 v2 v3 h
    rw [g_X11_seenNow_9] at h
    cases h
  | succ n ih =>
    intro v1 v2 v3 h
    rw [g_X11_seenNow_9] at h
    refine gv_iload_n 9 S 3 3 dX11_seenNow_9 rfl rfl ?_
    refine gv_aload_n 10 S 0 0 dX11_seenNow_10 rfl rfl ?_
    refine gv_get 11 S (hF_83_battens X) mf_X11_seenNow_87 dX11_seenNow_11 ?_
    refine gv_icmp_ge 14 S 44 h dX11_seenNow_14 (by decide) (fun h => ?_) (fun h => ?_)
    · refine gv_iload_n 44 S 1 1 dX11_seenNow_44 rfl rfl ?_
      exact gv_iretR 45 S h dX11_seenNow_45
    · refine gv_aload_n 17 S 0 0 dX11_seenNow_17 rfl rfl ?_
      refine gv_iload_n 18 S 3 3 dX11_seenNow_18 rfl rfl ?_
      obtain ⟨r2, hc3, h⟩ := br_some h
      refine gv_cVi 19 S (As := [.int v3]) (rest := []) (c_X11_edgeOf l X M v3 r2 hc3) (hO_83 X) rfl (cwV 1 S.1.2.2.2.2 gX11_seenNow_X11_edgeOf rfl rfl rfl (by decide +kernel) ⟨Nat.le_of_ble_eq_true rfl, Nat.le_of_ble_eq_true rfl⟩) rfl rfl (Nat.le_of_ble_eq_true rfl) dX11_seenNow_19 ?_
      refine gv_iload_n 22 S 2 2 dX11_seenNow_22 rfl rfl ?_
      refine gv_icmp_ge 23 S 38 h dX11_seenNow_23 (by decide) (fun h => ?_) (fun h => ?_)
      · refine gv_iinc 38 S 3 (v3 + (1 : Int32)) (lv' := [(3, .int (v3 + (1 : Int32))), (0, .ref (X.2.2 83)), (1, .int v1), (2, .int v2)]) dX11_seenNow_38 rfl rfl (Nat.le_of_ble_eq_true rfl) rfl ?_
        refine gv_goto 41 S 9 dX11_seenNow_41 (by decide) ?_
        exact gv_sub [1, 2, 3, 0] rfl (ih v1 v2 (v3 + (1 : Int32)) h)
      · refine gv_iload_n 26 S 1 1 dX11_seenNow_26 rfl rfl ?_
        refine gv_iconst 27 S (1 : Int32) dX11_seenNow_27 (by decide) ?_
        refine gv_iload_n 28 S 3 3 dX11_seenNow_28 rfl rfl ?_
        refine gv_ishl 29 S dX11_seenNow_29 ?_
        refine gv_ior 30 S dX11_seenNow_30 ?_
        refine gv_nmi h (fun x4 h => ?_)
        refine gv_istore_n 31 S 1 (lv' := [(1, .int x4), (0, .ref (X.2.2 83)), (2, .int v2), (3, .int v3)]) dX11_seenNow_31 rfl (Nat.le_of_ble_eq_true rfl) rfl ?_
        refine gv_aload_n 32 S 0 1 dX11_seenNow_32 rfl rfl ?_
        refine gv_iload_n 33 S 3 3 dX11_seenNow_33 rfl rfl ?_
        obtain ⟨r5, hc6, h⟩ := br_some h
        refine gv_cVi 34 S (As := [.int v3]) (rest := []) (c_X11_edgeOf l X M v3 r5 hc6) (hO_83 X) rfl (cwV 1 S.1.2.2.2.2 gX11_seenNow_X11_edgeOf rfl rfl rfl (by decide +kernel) ⟨Nat.le_of_ble_eq_true rfl, Nat.le_of_ble_eq_true rfl⟩) rfl rfl (Nat.le_of_ble_eq_true rfl) dX11_seenNow_34 ?_
        refine gv_istore_n 37 S 2 (lv' := [(2, .int r5), (1, .int x4), (0, .ref (X.2.2 83)), (3, .int v3)]) dX11_seenNow_37 rfl (Nat.le_of_ble_eq_true rfl) rfl ?_
        refine gv_iinc 38 S 3 (v3 + (1 : Int32)) (lv' := [(3, .int (v3 + (1 : Int32))), (2, .int r5), (1, .int x4), (0, .ref (X.2.2 83))]) dX11_seenNow_38 rfl rfl (Nat.le_of_ble_eq_true rfl) rfl ?_
        refine gv_goto 41 S 9 dX11_seenNow_41 (by decide) ?_
        exact gv_sub [3, 2, 1, 0] rfl (ih x4 r5 (v3 + (1 : Int32)) h)
set_option maxHeartbeats 4000000 in
set_option maxRecDepth 100000 in
theorem c_X11_seenNow (l : Launch) (X : GE) (M : MM) (r : Int32) (h : f_X11_seenNow M = some r) : CTi l yX11_seenNow wsX11_seenNow rm_X11_seenNow X [.ref (X.2.2 83)] M r M := by
  refine ct_i (own := RX11) (by decide +kernel) rfl rfl (Nat.le_of_ble_eq_true rfl) (lv0 := [(0, .ref (X.2.2 83))]) rfl ?_
  intro p e s m args below meth c S
  unfold f_X11_seenNow at h
  refine gv_iconst 0 S (0 : Int32) dX11_seenNow_0 (by decide) ?_
  refine gv_istore_n 1 S 1 (lv' := [(1, .int (0 : Int32)), (0, .ref (X.2.2 83))]) dX11_seenNow_1 rfl (Nat.le_of_ble_eq_true rfl) rfl ?_
  refine gv_aload_n 2 S 0 1 dX11_seenNow_2 rfl rfl ?_
  refine gv_get 3 S (hF_83_trimNow X) mf_X11_seenNow_123 dX11_seenNow_3 ?_
  refine gv_nmi h (fun x1 h => ?_)
  refine gv_istore_n 6 S 2 (lv' := [(2, .int x1), (1, .int (0 : Int32)), (0, .ref (X.2.2 83))]) dX11_seenNow_6 rfl (Nat.le_of_ble_eq_true rfl) rfl ?_
  refine gv_iconst 7 S (0 : Int32) dX11_seenNow_7 (by decide) ?_
  refine gv_istore_n 8 S 3 (lv' := [(3, .int (0 : Int32)), (2, .int x1), (1, .int (0 : Int32)), (0, .ref (X.2.2 83))]) dX11_seenNow_8 rfl (Nat.le_of_ble_eq_true rfl) rfl ?_
  exact gv_sub [3, 2, 1, 0] rfl (t_X11_seenNow_9 S FU (0 : Int32) x1 (0 : Int32) h)
theorem mi_X11_seen_11 : ∀ w ∈ u_ws RX11 TX11 39, w ∈ wsX11_seen := by decide +kernel
theorem mf_X11_seen_87 : MF wsX11_seen RX11 87 10 5 := ⟨RX11, TX11, 39, rfl, by decide, mi_X11_seen_11, by decide +kernel⟩
abbrev rm_X11_seen : Room := { frames := 2, cells := 0, slots := 0, locals := 44 }
set_option maxHeartbeats 4000000 in
set_option maxRecDepth 100000 in
theorem c_X11_seen (l : Launch) (X : GE) (M : MM) (r : Int32) (h : f_X11_seen M = some r) : CTi l yX11_seen wsX11_seen rm_X11_seen X [.ref (X.2.2 83)] M r M := by
  refine ct_i (own := RX11) (by decide +kernel) rfl rfl (Nat.le_of_ble_eq_true rfl) (lv0 := [(0, .ref (X.2.2 83))]) rfl ?_
  intro p e s m args below meth c S
  unfold f_X11_seen at h
  refine gv_aload_n 0 S 0 0 dX11_seen_0 rfl rfl ?_
  refine gv_get 1 S (hF_83_battens X) mf_X11_seen_87 dX11_seen_1 ?_
  refine gv_if_ne 4 S 12 h dX11_seen_4 (by decide) (fun h => ?_) (fun h => ?_)
  · refine gv_aload_n 12 S 0 0 dX11_seen_12 rfl rfl ?_
    obtain ⟨r1, hc2, h⟩ := br_some h
    refine gv_cVi 13 S (As := []) (rest := []) (c_X11_seenNow l X M r1 hc2) (hO_83 X) rfl (cwV 0 S.1.2.2.2.2 gX11_seen_X11_seenNow rfl rfl rfl (by decide +kernel) ⟨Nat.le_of_ble_eq_true rfl, Nat.le_of_ble_eq_true rfl⟩) rfl rfl (Nat.le_of_ble_eq_true rfl) dX11_seen_13 ?_
    exact gv_iretR 16 S h dX11_seen_16
  · refine gv_bipush 7 S (-3 : Int32) dX11_seen_7 (by decide) ?_
    refine gv_goto 9 S 16 dX11_seen_9 (by decide) ?_
    exact gv_iretR 16 S h dX11_seen_16
theorem mi_X11_hides_11 : ∀ w ∈ u_ws RX11 TX11 39, w ∈ wsX11_hides := by decide +kernel
theorem mf_X11_hides_123 : MF wsX11_hides RX11 123 10 7 := ⟨RX11, TX11, 39, rfl, by decide, mi_X11_hides_11, by decide +kernel⟩
abbrev rm_X11_hides : Room := { frames := 1, cells := 0, slots := 0, locals := 21 }
set_option maxHeartbeats 4000000 in
set_option maxRecDepth 100000 in
theorem t_X11_hides_12 {p : Program} {l : Launch} {e : Env} {s : State} {m : MethodId} {args : Array Value} {below : List Frame} {meth : Method} {c : Code} {X : GE} {M : MM} {r : Int32} (S : CX p s m args meth c cX11_hides 3 wsX11_hides RX11 (some .int) X) : ∀ (n : Nat) (v1 : Int32) (v2 : Int32) (h : g_X11_hides_12 M n v1 v2 = some r), V p l e (headSpec wsX11_hides rm_X11_hides).room s m args below meth c 3 X (MQ below (gQi X r M) args s 0 0 (gA X)) M 12 [(0, .ref (X.2.2 83)), (1, .int v1), (2, .int v2)] [] := by
  intro n
  induction n with
  | zero =>
    intro v1 v2 h
    rw [g_X11_hides_12] at h
    cases h
  | succ n ih =>
    intro v1 v2 h
    rw [g_X11_hides_12] at h
    refine gv_iload_n 12 S 2 2 dX11_hides_12 rfl rfl ?_
    refine gv_iload_n 13 S 1 1 dX11_hides_13 rfl rfl ?_
    refine gv_icmp_ge 14 S 50 h dX11_hides_14 (by decide) (fun h => ?_) (fun h => ?_)
    · refine gv_bipush 50 S (-9 : Int32) dX11_hides_50 (by decide) ?_
      exact gv_iretR 52 S h dX11_hides_52
    · refine gv_aload_n 17 S 0 0 dX11_hides_17 rfl rfl ?_
      refine gv_iload_n 18 S 1 1 dX11_hides_18 rfl rfl ?_
      obtain ⟨r3, hc4, h⟩ := br_some h
      refine gv_cVi 19 S (As := [.int v1]) (rest := []) (c_X11_edgeOf l X M v1 r3 hc4) (hO_83 X) rfl (cwV 1 S.1.2.2.2.2 gX11_hides_X11_edgeOf rfl rfl rfl (by decide +kernel) ⟨Nat.le_of_ble_eq_true rfl, Nat.le_of_ble_eq_true rfl⟩) rfl rfl (Nat.le_of_ble_eq_true rfl) dX11_hides_19 ?_
      refine gv_aload_n 22 S 0 0 dX11_hides_22 rfl rfl ?_
      refine gv_get 23 S (hF_83_trimNow X) mf_X11_hides_123 dX11_hides_23 ?_
      refine gv_icmp_ge 26 S 44 h dX11_hides_26 (by decide) (fun h => ?_) (fun h => ?_)
      · refine gv_iinc 44 S 2 (v2 + (1 : Int32)) (lv' := [(2, .int (v2 + (1 : Int32))), (0, .ref (X.2.2 83)), (1, .int v1)]) dX11_hides_44 rfl rfl (Nat.le_of_ble_eq_true rfl) rfl ?_
        refine gv_goto 47 S 12 dX11_hides_47 (by decide) ?_
        exact gv_sub [1, 2, 0] rfl (ih v1 (v2 + (1 : Int32)) h)
      · refine gv_aload_n 29 S 0 0 dX11_hides_29 rfl rfl ?_
        refine gv_iload_n 30 S 2 2 dX11_hides_30 rfl rfl ?_
        obtain ⟨r5, hc6, h⟩ := br_some h
        refine gv_cVi 31 S (As := [.int v2]) (rest := []) (c_X11_edgeOf l X M v2 r5 hc6) (hO_83 X) rfl (cwV 1 S.1.2.2.2.2 gX11_hides_X11_edgeOf rfl rfl rfl (by decide +kernel) ⟨Nat.le_of_ble_eq_true rfl, Nat.le_of_ble_eq_true rfl⟩) rfl rfl (Nat.le_of_ble_eq_true rfl) dX11_hides_31 ?_
        refine gv_aload_n 34 S 0 0 dX11_hides_34 rfl rfl ?_
        refine gv_iload_n 35 S 1 1 dX11_hides_35 rfl rfl ?_
        obtain ⟨r7, hc8, h⟩ := br_some h
        refine gv_cVi 36 S (As := [.int v1]) (rest := [.int r5]) (c_X11_edgeOf l X M v1 r7 hc8) (hO_83 X) rfl (cwV 1 S.1.2.2.2.2 gX11_hides_X11_edgeOf rfl rfl rfl (by decide +kernel) ⟨Nat.le_of_ble_eq_true rfl, Nat.le_of_ble_eq_true rfl⟩) rfl rfl (Nat.le_of_ble_eq_true rfl) dX11_hides_36 ?_
        refine gv_icmp_gt 39 S 44 h dX11_hides_39 (by decide) (fun h => ?_) (fun h => ?_)
        · refine gv_iinc 44 S 2 (v2 + (1 : Int32)) (lv' := [(2, .int (v2 + (1 : Int32))), (0, .ref (X.2.2 83)), (1, .int v1)]) dX11_hides_44 rfl rfl (Nat.le_of_ble_eq_true rfl) rfl ?_
          refine gv_goto 47 S 12 dX11_hides_47 (by decide) ?_
          exact gv_sub [1, 2, 0] rfl (ih v1 (v2 + (1 : Int32)) h)
        · refine gv_iload_n 42 S 2 2 dX11_hides_42 rfl rfl ?_
          exact gv_iretR 43 S h dX11_hides_43
set_option maxHeartbeats 4000000 in
set_option maxRecDepth 100000 in
theorem c_X11_hides (l : Launch) (X : GE) (M : MM) (v1 : Int32) (r : Int32) (h : f_X11_hides M v1 = some r) : CTi l yX11_hides wsX11_hides rm_X11_hides X [.ref (X.2.2 83), .int v1] M r M := by
  refine ct_i (own := RX11) (by decide +kernel) rfl rfl (Nat.le_of_ble_eq_true rfl) (lv0 := [(0, .ref (X.2.2 83)), (1, .int v1)]) rfl ?_
  intro p e s m args below meth c S
  unfold f_X11_hides at h
  refine gv_aload_n 0 S 0 0 dX11_hides_0 rfl rfl ?_
  refine gv_iload_n 1 S 1 1 dX11_hides_1 rfl rfl ?_
  obtain ⟨r1, hc2, h⟩ := br_some h
  refine gv_cVi 2 S (As := [.int v1]) (rest := []) (c_X11_isBatten l X M v1 r1 hc2) (hO_83 X) rfl (cwV 1 S.1.2.2.2.2 gX11_hides_X11_isBatten rfl rfl rfl (by decide +kernel) ⟨Nat.le_of_ble_eq_true rfl, Nat.le_of_ble_eq_true rfl⟩) rfl rfl (Nat.le_of_ble_eq_true rfl) dX11_hides_2 ?_
  refine gv_if_ne 5 S 10 h dX11_hides_5 (by decide) (fun h => ?_) (fun h => ?_)
  · refine gv_iconst 10 S (0 : Int32) dX11_hides_10 (by decide) ?_
    refine gv_istore_n 11 S 2 (lv' := [(2, .int (0 : Int32)), (0, .ref (X.2.2 83)), (1, .int v1)]) dX11_hides_11 rfl (Nat.le_of_ble_eq_true rfl) rfl ?_
    exact gv_sub [1, 2, 0] rfl (t_X11_hides_12 S FU v1 (0 : Int32) h)
  · refine gv_iconst 8 S (-1 : Int32) dX11_hides_8 (by decide) ?_
    exact gv_iretR 9 S h dX11_hides_9
theorem mi_X11_hire_11 : ∀ w ∈ u_ws RX11 TX11 39, w ∈ wsX11_hire := by decide +kernel
theorem mf_X11_hire_87 : MF wsX11_hire RX11 87 10 5 := ⟨RX11, TX11, 39, rfl, by decide, mi_X11_hire_11, by decide +kernel⟩
theorem mf_X11_hire_117 : MF wsX11_hire RX11 117 10 6 := ⟨RX11, TX11, 39, rfl, by decide, mi_X11_hire_11, by decide +kernel⟩
theorem mp_X11_hire_117 : MP wsX11_hire RX11 117 10 6 .int := ⟨RX11, TX11, 39, tyX11, rfl, by decide, mi_X11_hire_11, by decide +kernel, tyX11_ok, nmX11, rfl, by decide +kernel⟩
abbrev rm_X11_hire : Room := { frames := 1, cells := 0, slots := 0, locals := 22 }
set_option maxHeartbeats 4000000 in
set_option maxRecDepth 100000 in
theorem c_X11_hire (l : Launch) (X : GE) (M : MM) (v1 : Int32) (r : Int32) (M' : MM) (h : f_X11_hire M v1 = some (r, M')) : CTi l yX11_hire wsX11_hire rm_X11_hire X [.ref (X.2.2 83), .int v1] M r M' := by
  refine ct_i (own := RX11) (by decide +kernel) rfl rfl (Nat.le_of_ble_eq_true rfl) (lv0 := [(0, .ref (X.2.2 83)), (1, .int v1)]) rfl ?_
  intro p e s m args below meth c S
  unfold f_X11_hire at h
  refine gv_iload_n 0 S 1 1 dX11_hire_0 rfl rfl ?_
  refine gv_iconst 1 S (1 : Int32) dX11_hire_1 (by decide) ?_
  refine gv_bipush 2 S (6 : Int32) dX11_hire_2 (by decide) ?_
  obtain ⟨r1, hc2, h⟩ := br_some h
  refine gv_cSi 4 S (As := [.int v1, .int (1 : Int32), .int (6 : Int32)]) (rest := []) (c_X11_within l X M v1 (1 : Int32) (6 : Int32) r1 hc2) (va_cwS 3 S.1.2.2.2.2 gX11_hire_X11_within rfl rfl rfl (by decide +kernel) ⟨Nat.le_of_ble_eq_true rfl, Nat.le_of_ble_eq_true rfl⟩) rfl rfl (Nat.le_of_ble_eq_true rfl) dX11_hire_4 ?_
  refine gv_if_ne 7 S 13 h dX11_hire_7 (by decide) (fun h => ?_) (fun h => ?_)
  · refine gv_aload_n 13 S 0 0 dX11_hire_13 rfl rfl ?_
    refine gv_get 14 S (hF_83_battens X) mf_X11_hire_87 dX11_hire_14 ?_
    refine gv_if_ne 17 S 23 h dX11_hire_17 (by decide) (fun h => ?_) (fun h => ?_)
    · refine gv_aload_n 23 S 0 0 dX11_hire_23 rfl rfl ?_
      refine gv_get 24 S (hF_83_hands X) mf_X11_hire_117 dX11_hire_24 ?_
      refine gv_nmi h (fun x3 h => ?_)
      refine gv_istore_n 27 S 2 (lv' := [(2, .int x3), (0, .ref (X.2.2 83)), (1, .int v1)]) dX11_hire_27 rfl (Nat.le_of_ble_eq_true rfl) rfl ?_
      refine gv_aload_n 28 S 0 1 dX11_hire_28 rfl rfl ?_
      refine gv_iload_n 29 S 1 2 dX11_hire_29 rfl rfl ?_
      refine gv_put 30 S h (hP_83_hands X) mp_X11_hire_117 rfl rfl dX11_hire_30 (fun M4 h => ?_)
      refine gv_iload_n 33 S 2 0 dX11_hire_33 rfl rfl ?_
      exact gv_iret 34 S h dX11_hire_34
    · refine gv_bipush 20 S (-3 : Int32) dX11_hire_20 (by decide) ?_
      exact gv_iret 22 S h dX11_hire_22
  · refine gv_bipush 10 S (-2 : Int32) dX11_hire_10 (by decide) ?_
    exact gv_iret 12 S h dX11_hire_12
theorem mi_X11_trim_11 : ∀ w ∈ u_ws RX11 TX11 39, w ∈ wsX11_trim := by decide +kernel
theorem mf_X11_trim_87 : MF wsX11_trim RX11 87 10 5 := ⟨RX11, TX11, 39, rfl, by decide, mi_X11_trim_11, by decide +kernel⟩
theorem mf_X11_trim_123 : MF wsX11_trim RX11 123 10 7 := ⟨RX11, TX11, 39, rfl, by decide, mi_X11_trim_11, by decide +kernel⟩
theorem mp_X11_trim_123 : MP wsX11_trim RX11 123 10 7 .int := ⟨RX11, TX11, 39, tyX11, rfl, by decide, mi_X11_trim_11, by decide +kernel, tyX11_ok, nmX11, rfl, by decide +kernel⟩
abbrev rm_X11_trim : Room := { frames := 1, cells := 0, slots := 0, locals := 22 }
set_option maxHeartbeats 4000000 in
set_option maxRecDepth 100000 in
theorem c_X11_trim (l : Launch) (X : GE) (M : MM) (v1 : Int32) (r : Int32) (M' : MM) (h : f_X11_trim M v1 = some (r, M')) : CTi l yX11_trim wsX11_trim rm_X11_trim X [.ref (X.2.2 83), .int v1] M r M' := by
  refine ct_i (own := RX11) (by decide +kernel) rfl rfl (Nat.le_of_ble_eq_true rfl) (lv0 := [(0, .ref (X.2.2 83)), (1, .int v1)]) rfl ?_
  intro p e s m args below meth c S
  unfold f_X11_trim at h
  refine gv_iload_n 0 S 1 1 dX11_trim_0 rfl rfl ?_
  refine gv_iconst 1 S (1 : Int32) dX11_trim_1 (by decide) ?_
  refine gv_bipush 2 S (9 : Int32) dX11_trim_2 (by decide) ?_
  obtain ⟨r1, hc2, h⟩ := br_some h
  refine gv_cSi 4 S (As := [.int v1, .int (1 : Int32), .int (9 : Int32)]) (rest := []) (c_X11_within l X M v1 (1 : Int32) (9 : Int32) r1 hc2) (va_cwS 3 S.1.2.2.2.2 gX11_trim_X11_within rfl rfl rfl (by decide +kernel) ⟨Nat.le_of_ble_eq_true rfl, Nat.le_of_ble_eq_true rfl⟩) rfl rfl (Nat.le_of_ble_eq_true rfl) dX11_trim_4 ?_
  refine gv_if_ne 7 S 13 h dX11_trim_7 (by decide) (fun h => ?_) (fun h => ?_)
  · refine gv_aload_n 13 S 0 0 dX11_trim_13 rfl rfl ?_
    refine gv_get 14 S (hF_83_battens X) mf_X11_trim_87 dX11_trim_14 ?_
    refine gv_if_ne 17 S 23 h dX11_trim_17 (by decide) (fun h => ?_) (fun h => ?_)
    · refine gv_aload_n 23 S 0 0 dX11_trim_23 rfl rfl ?_
      refine gv_get 24 S (hF_83_trimNow X) mf_X11_trim_123 dX11_trim_24 ?_
      refine gv_nmi h (fun x3 h => ?_)
      refine gv_istore_n 27 S 2 (lv' := [(2, .int x3), (0, .ref (X.2.2 83)), (1, .int v1)]) dX11_trim_27 rfl (Nat.le_of_ble_eq_true rfl) rfl ?_
      refine gv_aload_n 28 S 0 1 dX11_trim_28 rfl rfl ?_
      refine gv_iload_n 29 S 1 2 dX11_trim_29 rfl rfl ?_
      refine gv_put 30 S h (hP_83_trimNow X) mp_X11_trim_123 rfl rfl dX11_trim_30 (fun M4 h => ?_)
      refine gv_iload_n 33 S 2 0 dX11_trim_33 rfl rfl ?_
      exact gv_iret 34 S h dX11_trim_34
    · refine gv_bipush 20 S (-3 : Int32) dX11_trim_20 (by decide) ?_
      exact gv_iret 22 S h dX11_trim_22
  · refine gv_bipush 10 S (-2 : Int32) dX11_trim_10 (by decide) ?_
    exact gv_iret 12 S h dX11_trim_12
theorem mi_X11_goalsAsNow_11 : ∀ w ∈ u_ws RX11 TX11 39, w ∈ wsX11_goalsAsNow := by decide +kernel
theorem mf_X11_goalsAsNow_87 : MF wsX11_goalsAsNow RX11 87 10 5 := ⟨RX11, TX11, 39, rfl, by decide, mi_X11_goalsAsNow_11, by decide +kernel⟩
theorem mf_X11_goalsAsNow_37 : MF wsX11_goalsAsNow RX11 37 10 20 := ⟨RX11, TX11, 39, rfl, by decide, mi_X11_goalsAsNow_11, by decide +kernel⟩
theorem mf_X11_goalsAsNow_28 : MF wsX11_goalsAsNow RX11 28 10 12 := ⟨RX11, TX11, 39, rfl, by decide, mi_X11_goalsAsNow_11, by decide +kernel⟩
abbrev rm_X11_goalsAsNow : Room := { frames := 0, cells := 0, slots := 0, locals := 0 }
set_option maxHeartbeats 4000000 in
set_option maxRecDepth 100000 in
theorem t_X11_goalsAsNow_2 {p : Program} {l : Launch} {e : Env} {s : State} {m : MethodId} {args : Array Value} {below : List Frame} {meth : Method} {c : Code} {X : GE} {M' : MM} (S : CX p s m args meth c cX11_goalsAsNow 2 wsX11_goalsAsNow RX11 none X) : ∀ (n : Nat) (M : MM) (v1 : Int32) (h : g_X11_goalsAsNow_2 n M v1 = some M'), V p l e (headSpec wsX11_goalsAsNow rm_X11_goalsAsNow).room s m args below meth c 2 X (MQ below (gQv X M') args s 0 0 (gA X)) M 2 [(0, .ref (X.2.2 83)), (1, .int v1)] [] := by
  intro n
  induction n with
  | zero =>
    intro M v1 h
    rw [g_X11_goalsAsNow_2] at h
    cases h
  | succ n ih =>
    intro M v1 h
    rw [g_X11_goalsAsNow_2] at h
    refine gv_iload_n 2 S 1 1 dX11_goalsAsNow_2 rfl rfl ?_
    refine gv_aload_n 3 S 0 0 dX11_goalsAsNow_3 rfl rfl ?_
    refine gv_get 4 S (hF_83_battens X) mf_X11_goalsAsNow_87 dX11_goalsAsNow_4 ?_
    refine gv_icmp_ge 7 S 28 h dX11_goalsAsNow_7 (by decide) (fun h => ?_) (fun h => ?_)
    · exact gv_vret 28 S h dX11_goalsAsNow_28
    · refine gv_aload_n 10 S 0 0 dX11_goalsAsNow_10 rfl rfl ?_
      refine gv_get 11 S (hF_83_goal X) mf_X11_goalsAsNow_37 dX11_goalsAsNow_11 ?_
      refine gv_iload_n 14 S 1 1 dX11_goalsAsNow_14 rfl rfl ?_
      refine gv_aload_n 15 S 0 0 dX11_goalsAsNow_15 rfl rfl ?_
      refine gv_get 16 S (hF_83_height X) mf_X11_goalsAsNow_28 dX11_goalsAsNow_16 ?_
      refine gv_iload_n 19 S 1 1 dX11_goalsAsNow_19 rfl rfl ?_
      refine gv_iald 20 S h (hI_90 X) dX11_goalsAsNow_20 (fun h => ?_)
      refine gv_iast 21 S h (hI_93 X) dX11_goalsAsNow_21 (fun M1 h => ?_)
      refine gv_iinc 22 S 1 (v1 + (1 : Int32)) (lv' := [(1, .int (v1 + (1 : Int32))), (0, .ref (X.2.2 83))]) dX11_goalsAsNow_22 rfl rfl (Nat.le_of_ble_eq_true rfl) rfl ?_
      refine gv_goto 25 S 2 dX11_goalsAsNow_25 (by decide) ?_
      exact gv_sub [1, 0] rfl (ih M1 (v1 + (1 : Int32)) h)
set_option maxHeartbeats 4000000 in
set_option maxRecDepth 100000 in
theorem c_X11_goalsAsNow (l : Launch) (X : GE) (M : MM) (M' : MM) (h : f_X11_goalsAsNow M = some M') : CTv l yX11_goalsAsNow wsX11_goalsAsNow rm_X11_goalsAsNow X [.ref (X.2.2 83)] M M' := by
  refine ct_v (own := RX11) (by decide +kernel) rfl rfl (Nat.le_of_ble_eq_true rfl) (lv0 := [(0, .ref (X.2.2 83))]) rfl ?_
  intro p e s m args below meth c S
  unfold f_X11_goalsAsNow at h
  refine gv_iconst 0 S (0 : Int32) dX11_goalsAsNow_0 (by decide) ?_
  refine gv_istore_n 1 S 1 (lv' := [(1, .int (0 : Int32)), (0, .ref (X.2.2 83))]) dX11_goalsAsNow_1 rfl (Nat.le_of_ble_eq_true rfl) rfl ?_
  exact gv_sub [1, 0] rfl (t_X11_goalsAsNow_2 S FU M (0 : Int32) h)
abbrev rm_X11_apart : Room := { frames := 0, cells := 0, slots := 0, locals := 0 }
set_option maxHeartbeats 4000000 in
set_option maxRecDepth 100000 in
theorem c_X11_apart (l : Launch) (X : GE) (M : MM) (v0 : Int32) (v1 : Int32) (r : Int32) (h : f_X11_apart M v0 v1 = some r) : CTi l yX11_apart wsX11_apart rm_X11_apart X [.int v0, .int v1] M r M := by
  refine ct_i (own := RX11) (by decide +kernel) rfl rfl (Nat.le_of_ble_eq_true rfl) (lv0 := [(0, .int v0), (1, .int v1)]) rfl ?_
  intro p e s m args below meth c S
  unfold f_X11_apart at h
  refine gv_iload_n 0 S 0 0 dX11_apart_0 rfl rfl ?_
  refine gv_iload_n 1 S 1 1 dX11_apart_1 rfl rfl ?_
  refine gv_icmp_ge 2 S 11 h dX11_apart_2 (by decide) (fun h => ?_) (fun h => ?_)
  · refine gv_iload_n 11 S 0 0 dX11_apart_11 rfl rfl ?_
    refine gv_iload_n 12 S 1 1 dX11_apart_12 rfl rfl ?_
    refine gv_isub 13 S dX11_apart_13 ?_
    exact gv_iretR 14 S h dX11_apart_14
  · refine gv_iload_n 5 S 1 1 dX11_apart_5 rfl rfl ?_
    refine gv_iload_n 6 S 0 0 dX11_apart_6 rfl rfl ?_
    refine gv_isub 7 S dX11_apart_7 ?_
    refine gv_goto 8 S 14 dX11_apart_8 (by decide) ?_
    exact gv_iretR 14 S h dX11_apart_14
theorem mi_X11_fouls_11 : ∀ w ∈ u_ws RX11 TX11 39, w ∈ wsX11_fouls := by decide +kernel
theorem mf_X11_fouls_31 : MF wsX11_fouls RX11 31 10 13 := ⟨RX11, TX11, 39, rfl, by decide, mi_X11_fouls_11, by decide +kernel⟩
theorem mf_X11_fouls_28 : MF wsX11_fouls RX11 28 10 12 := ⟨RX11, TX11, 39, rfl, by decide, mi_X11_fouls_11, by decide +kernel⟩
theorem mf_X11_fouls_37 : MF wsX11_fouls RX11 37 10 20 := ⟨RX11, TX11, 39, rfl, by decide, mi_X11_fouls_11, by decide +kernel⟩
abbrev rm_X11_fouls : Room := { frames := 0, cells := 0, slots := 0, locals := 0 }
set_option maxHeartbeats 4000000 in
set_option maxRecDepth 100000 in
theorem t_X11_fouls_56 {p : Program} {l : Launch} {e : Env} {s : State} {m : MethodId} {args : Array Value} {below : List Frame} {meth : Method} {c : Code} {X : GE} {M : MM} {r : Int32} (S : CX p s m args meth c cX11_fouls 2 wsX11_fouls RX11 (some .boolean) X) (v1 : Int32) (h : g_X11_fouls_56 M v1 = some r) : V p l e (headSpec wsX11_fouls rm_X11_fouls).room s m args below meth c 2 X (MQ below (gQi X r M) args s 0 0 (gA X)) M 56 [(0, .ref (X.2.2 83)), (1, .int v1)] [] := by
  unfold g_X11_fouls_56 at h
  refine gv_aload_n 56 S 0 0 dX11_fouls_56 rfl rfl ?_
  refine gv_get 57 S (hF_83_height X) mf_X11_fouls_28 dX11_fouls_57 ?_
  refine gv_iload_n 60 S 1 1 dX11_fouls_60 rfl rfl ?_
  refine gv_iald 61 S h (hI_90 X) dX11_fouls_61 (fun h => ?_)
  refine gv_aload_n 62 S 0 0 dX11_fouls_62 rfl rfl ?_
  refine gv_get 63 S (hF_83_height X) mf_X11_fouls_28 dX11_fouls_63 ?_
  refine gv_iload_n 66 S 1 1 dX11_fouls_66 rfl rfl ?_
  refine gv_iconst 67 S (1 : Int32) dX11_fouls_67 (by decide) ?_
  refine gv_iadd 68 S dX11_fouls_68 ?_
  refine gv_iald 69 S h (hI_90 X) dX11_fouls_69 (fun h => ?_)
  refine gv_icmp_ge 70 S 94 h dX11_fouls_70 (by decide) (fun h => ?_) (fun h => ?_)
  · refine gv_iconst 94 S (0 : Int32) dX11_fouls_94 (by decide) ?_
    exact gv_zretR 95 S h rfl dX11_fouls_95
  · refine gv_aload_n 73 S 0 0 dX11_fouls_73 rfl rfl ?_
    refine gv_get 74 S (hF_83_goal X) mf_X11_fouls_37 dX11_fouls_74 ?_
    refine gv_iload_n 77 S 1 1 dX11_fouls_77 rfl rfl ?_
    refine gv_iald 78 S h (hI_93 X) dX11_fouls_78 (fun h => ?_)
    refine gv_aload_n 79 S 0 0 dX11_fouls_79 rfl rfl ?_
    refine gv_get 80 S (hF_83_goal X) mf_X11_fouls_37 dX11_fouls_80 ?_
    refine gv_iload_n 83 S 1 1 dX11_fouls_83 rfl rfl ?_
    refine gv_iconst 84 S (1 : Int32) dX11_fouls_84 (by decide) ?_
    refine gv_iadd 85 S dX11_fouls_85 ?_
    refine gv_iald 86 S h (hI_93 X) dX11_fouls_86 (fun h => ?_)
    refine gv_icmp_le 87 S 94 h dX11_fouls_87 (by decide) (fun h => ?_) (fun h => ?_)
    · refine gv_iconst 94 S (0 : Int32) dX11_fouls_94 (by decide) ?_
      exact gv_zretR 95 S h rfl dX11_fouls_95
    · refine gv_iconst 90 S (1 : Int32) dX11_fouls_90 (by decide) ?_
      refine gv_goto 91 S 95 dX11_fouls_91 (by decide) ?_
      exact gv_zretR 95 S h rfl dX11_fouls_95
set_option maxHeartbeats 4000000 in
set_option maxRecDepth 100000 in
theorem c_X11_fouls (l : Launch) (X : GE) (M : MM) (v1 : Int32) (r : Int32) (h : f_X11_fouls M v1 = some r) : CTi l yX11_fouls wsX11_fouls rm_X11_fouls X [.ref (X.2.2 83), .int v1] M r M := by
  refine ct_i (own := RX11) (by decide +kernel) rfl rfl (Nat.le_of_ble_eq_true rfl) (lv0 := [(0, .ref (X.2.2 83)), (1, .int v1)]) rfl ?_
  intro p e s m args below meth c S
  unfold f_X11_fouls at h
  refine gv_aload_n 0 S 0 0 dX11_fouls_0 rfl rfl ?_
  refine gv_get 1 S (hF_83_drop X) mf_X11_fouls_31 dX11_fouls_1 ?_
  refine gv_iload_n 4 S 1 1 dX11_fouls_4 rfl rfl ?_
  refine gv_iald 5 S h (hI_91 X) dX11_fouls_5 (fun h => ?_)
  refine gv_if_eq 6 S 20 h dX11_fouls_6 (by decide) (fun h => ?_) (fun h => ?_)
  · refine gv_iconst 20 S (0 : Int32) dX11_fouls_20 (by decide) ?_
    exact gv_zretR 21 S h rfl dX11_fouls_21
  · refine gv_aload_n 9 S 0 0 dX11_fouls_9 rfl rfl ?_
    refine gv_get 10 S (hF_83_drop X) mf_X11_fouls_31 dX11_fouls_10 ?_
    refine gv_iload_n 13 S 1 1 dX11_fouls_13 rfl rfl ?_
    refine gv_iconst 14 S (1 : Int32) dX11_fouls_14 (by decide) ?_
    refine gv_iadd 15 S dX11_fouls_15 ?_
    refine gv_iald 16 S h (hI_91 X) dX11_fouls_16 (fun h => ?_)
    refine gv_if_ne 17 S 22 h dX11_fouls_17 (by decide) (fun h => ?_) (fun h => ?_)
    · refine gv_aload_n 22 S 0 0 dX11_fouls_22 rfl rfl ?_
      refine gv_get 23 S (hF_83_height X) mf_X11_fouls_28 dX11_fouls_23 ?_
      refine gv_iload_n 26 S 1 1 dX11_fouls_26 rfl rfl ?_
      refine gv_iald 27 S h (hI_90 X) dX11_fouls_27 (fun h => ?_)
      refine gv_aload_n 28 S 0 0 dX11_fouls_28 rfl rfl ?_
      refine gv_get 29 S (hF_83_height X) mf_X11_fouls_28 dX11_fouls_29 ?_
      refine gv_iload_n 32 S 1 1 dX11_fouls_32 rfl rfl ?_
      refine gv_iconst 33 S (1 : Int32) dX11_fouls_33 (by decide) ?_
      refine gv_iadd 34 S dX11_fouls_34 ?_
      refine gv_iald 35 S h (hI_90 X) dX11_fouls_35 (fun h => ?_)
      refine gv_icmp_le 36 S 56 h dX11_fouls_36 (by decide) (fun h => ?_) (fun h => ?_)
      · exact gv_sub [0, 1] rfl (t_X11_fouls_56 S v1 h)
      · refine gv_aload_n 39 S 0 0 dX11_fouls_39 rfl rfl ?_
        refine gv_get 40 S (hF_83_goal X) mf_X11_fouls_37 dX11_fouls_40 ?_
        refine gv_iload_n 43 S 1 1 dX11_fouls_43 rfl rfl ?_
        refine gv_iald 44 S h (hI_93 X) dX11_fouls_44 (fun h => ?_)
        refine gv_aload_n 45 S 0 0 dX11_fouls_45 rfl rfl ?_
        refine gv_get 46 S (hF_83_goal X) mf_X11_fouls_37 dX11_fouls_46 ?_
        refine gv_iload_n 49 S 1 1 dX11_fouls_49 rfl rfl ?_
        refine gv_iconst 50 S (1 : Int32) dX11_fouls_50 (by decide) ?_
        refine gv_iadd 51 S dX11_fouls_51 ?_
        refine gv_iald 52 S h (hI_93 X) dX11_fouls_52 (fun h => ?_)
        refine gv_icmp_lt 53 S 90 h dX11_fouls_53 (by decide) (fun h => ?_) (fun h => ?_)
        · refine gv_iconst 90 S (1 : Int32) dX11_fouls_90 (by decide) ?_
          refine gv_goto 91 S 95 dX11_fouls_91 (by decide) ?_
          exact gv_zretR 95 S h rfl dX11_fouls_95
        · exact gv_sub [0, 1] rfl (t_X11_fouls_56 S v1 h)
    · refine gv_iconst 20 S (0 : Int32) dX11_fouls_20 (by decide) ?_
      exact gv_zretR 21 S h rfl dX11_fouls_21
