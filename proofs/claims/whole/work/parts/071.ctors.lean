theorem mpf_X6_init_9 : MPF wsX6_init RX6 9 6 0 (.array .int) := ⟨RX6, TX6, 6, tyX6, rfl, by decide, by decide +kernel, by decide +kernel, tyX6_ok, nmX6, rfl, rfl, by decide +kernel⟩
theorem mpf_X6_init_15 : MPF wsX6_init RX6 15 6 1 (.array .int) := ⟨RX6, TX6, 6, tyX6, rfl, by decide, by decide +kernel, by decide +kernel, tyX6_ok, nmX6, rfl, rfl, by decide +kernel⟩
theorem mpf_X6_init_18 : MPF wsX6_init RX6 18 6 2 (.array .int) := ⟨RX6, TX6, 6, tyX6, rfl, by decide, by decide +kernel, by decide +kernel, tyX6_ok, nmX6, rfl, rfl, by decide +kernel⟩
abbrev rm_X6_init : Room := { frames := 1, cells := 3, slots := 24, locals := 12 }
set_option maxHeartbeats 4000000 in
set_option maxRecDepth 100000 in
theorem cc_X6_init (l : Launch) (X : GE) (k : Nat) (hk : isRg k) (P : PB) (M : MM) (hM : ∀ i, k < i → i < (k + 4) → M i = fun _ => 0) : CTC l yX6_init wsX6_init rm_X6_init X [.ref (X.2.2 k)] P M (k + 1) (sB (sB (sB P k 0) k 1) k 2) M (k + 4) 3 24 := by
  refine ct_C (own := RX6) (by decide +kernel) rfl rfl rfl (Nat.le_of_ble_eq_true rfl) ?_
  intro p e s m args below meth c S hin
  refine cv_aload_n 0 S 0 0 dX6_init_0 rfl rfl ?_
  refine cv_obj 1 S (by decide +kernel) (by decide +kernel) (by decide +kernel) dX6_init_1 (Nat.le_of_ble_eq_true rfl) (Nat.le_of_ble_eq_true rfl) ?_
  refine cv_aload_n 4 S 0 0 dX6_init_4 rfl rfl ?_
  refine cv_bipush 5 S (8 : Int32) dX6_init_5 (by decide) ?_
  refine cv_newa 7 S (atype := .int) (by decide +kernel) 0 rfl (fun h => h) 8 (va_at_i X (k + 1) 8 M _ (hIP_Rg_0 hk) (hM (k + 1) (by omega) (by omega))) (by decide) (by decide) (by decide) (Nat.le_of_ble_eq_true rfl) (Nat.le_of_ble_eq_true rfl) dX6_init_7 ?_
  refine cv_putF 9 S hin (by omega) (hSP_Rg_0 hk) mpf_X6_init_9 rfl rfl dX6_init_9 ?_
  refine cv_aload_n 12 S 0 0 dX6_init_12 rfl rfl ?_
  refine cv_bipush 13 S (8 : Int32) dX6_init_13 (by decide) ?_
  refine cv_newa 15 S (atype := .int) (by decide +kernel) 0 rfl (fun h => h) 8 (va_at_i X (k + 2) 8 M _ (hIP_Rg_1 hk) (hM (k + 2) (by omega) (by omega))) (by decide) (by decide) (by decide) (Nat.le_of_ble_eq_true rfl) (Nat.le_of_ble_eq_true rfl) dX6_init_15 ?_
  refine cv_putF 17 S hin (by omega) (hSP_Rg_1 hk) mpf_X6_init_15 rfl rfl dX6_init_17 ?_
  refine cv_aload_n 20 S 0 0 dX6_init_20 rfl rfl ?_
  refine cv_bipush 21 S (8 : Int32) dX6_init_21 (by decide) ?_
  refine cv_newa 23 S (atype := .int) (by decide +kernel) 0 rfl (fun h => h) 8 (va_at_i X (k + 3) 8 M _ (hIP_Rg_2 hk) (hM (k + 3) (by omega) (by omega))) (by decide) (by decide) (by decide) (Nat.le_of_ble_eq_true rfl) (Nat.le_of_ble_eq_true rfl) dX6_init_23 ?_
  refine cv_putF 25 S hin (by omega) (hSP_Rg_2 hk) mpf_X6_init_18 rfl rfl dX6_init_25 ?_
  exact cv_ret 28 S dX6_init_28
theorem mpf_X7_init_9 : MPF wsX7_init RX7 9 7 0 (.array .int) := ⟨RX7, TX7, 4, tyX7, rfl, by decide, by decide +kernel, by decide +kernel, tyX7_ok, nmX7, rfl, rfl, by decide +kernel⟩
abbrev rm_X7_init : Room := { frames := 1, cells := 1, slots := 60, locals := 12 }
set_option maxHeartbeats 4000000 in
set_option maxRecDepth 100000 in
theorem cc_X7_init (l : Launch) (X : GE) (k : Nat) (hk : isSh k) (P : PB) (M : MM) (hM : ∀ i, k < i → i < (k + 2) → M i = fun _ => 0) : CTC l yX7_init wsX7_init rm_X7_init X [.ref (X.2.2 k)] P M (k + 1) (sB P k 0) M (k + 2) 1 60 := by
  refine ct_C (own := RX7) (by decide +kernel) rfl rfl rfl (Nat.le_of_ble_eq_true rfl) ?_
  intro p e s m args below meth c S hin
  refine cv_aload_n 0 S 0 0 dX7_init_0 rfl rfl ?_
  refine cv_obj 1 S (by decide +kernel) (by decide +kernel) (by decide +kernel) dX7_init_1 (Nat.le_of_ble_eq_true rfl) (Nat.le_of_ble_eq_true rfl) ?_
  refine cv_aload_n 4 S 0 0 dX7_init_4 rfl rfl ?_
  refine cv_bipush 5 S (60 : Int32) dX7_init_5 (by decide) ?_
  refine cv_newa 7 S (atype := .int) (by decide +kernel) 0 rfl (fun h => h) 60 (va_at_i X (k + 1) 60 M _ (hIP_Sh_0 hk) (hM (k + 1) (by omega) (by omega))) (by decide) (by decide) (by decide) (Nat.le_of_ble_eq_true rfl) (Nat.le_of_ble_eq_true rfl) dX7_init_7 ?_
  refine cv_putF 9 S hin (by omega) (hSP_Sh_0 hk) mpf_X7_init_9 rfl rfl dX7_init_9 ?_
  exact cv_ret 12 S dX7_init_12
theorem mpf_X1_init_9 : MPF wsX1_init RX1 9 1 0 (.array .int) := ⟨RX1, TX1, 4, tyX1, rfl, by decide, by decide +kernel, by decide +kernel, tyX1_ok, nmX1, rfl, rfl, by decide +kernel⟩
theorem mpf_X1_init_15 : MPF wsX1_init RX1 15 1 1 (.array .int) := ⟨RX1, TX1, 4, tyX1, rfl, by decide, by decide +kernel, by decide +kernel, tyX1_ok, nmX1, rfl, rfl, by decide +kernel⟩
theorem mpf_X1_init_21 : MPF wsX1_init RX1 21 1 2 (.object "FlyFloor$Rig") := ⟨RX1, TX1, 4, tyX1, rfl, by decide, by decide +kernel, by decide +kernel, tyX1_ok, nmX1, rfl, rfl, by decide +kernel⟩
abbrev rm_X1_init : Room := { frames := 2, cells := 6, slots := 46, locals := 32 }
set_option maxHeartbeats 4000000 in
set_option maxRecDepth 100000 in
theorem cc_X1_init (l : Launch) (X : GE) (P : PB) (M : MM) (hM : ∀ i, 20 < i → i < 27 → M i = fun _ => 0) (hP : ∀ i, 20 < i → i < 27 → P i = fun _ => false) : CTC l yX1_init wsX1_init rm_X1_init X [.ref (X.2.2 20)] P M 21 (sB (sB (sB (sB (sB (sB P 20 0) 20 1) 23 0) 23 1) 23 2) 20 2) M 27 6 46 := by
  refine ct_C (own := RX1) (by decide +kernel) rfl rfl rfl (Nat.le_of_ble_eq_true rfl) ?_
  intro p e s m args below meth c S hin
  refine cv_aload_n 0 S 0 0 dX1_init_0 rfl rfl ?_
  refine cv_obj 1 S (by decide +kernel) (by decide +kernel) (by decide +kernel) dX1_init_1 (Nat.le_of_ble_eq_true rfl) (Nat.le_of_ble_eq_true rfl) ?_
  refine cv_aload_n 4 S 0 0 dX1_init_4 rfl rfl ?_
  refine cv_bipush 5 S (8 : Int32) dX1_init_5 (by decide) ?_
  refine cv_newa 7 S (atype := .int) (by decide +kernel) 0 rfl (fun h => h) 8 (va_at_i X 21 8 M _ (fun _ _ => rfl) (hM 21 (by omega) (by omega))) (by decide) (by decide) (by decide) (Nat.le_of_ble_eq_true rfl) (Nat.le_of_ble_eq_true rfl) dX1_init_7 ?_
  refine cv_putF 9 S hin (by omega) (hSP_20_0 X) mpf_X1_init_9 rfl rfl dX1_init_9 ?_
  refine cv_aload_n 12 S 0 0 dX1_init_12 rfl rfl ?_
  refine cv_bipush 13 S (8 : Int32) dX1_init_13 (by decide) ?_
  refine cv_newa 15 S (atype := .int) (by decide +kernel) 0 rfl (fun h => h) 8 (va_at_i X 22 8 M _ (fun _ _ => rfl) (hM 22 (by omega) (by omega))) (by decide) (by decide) (by decide) (Nat.le_of_ble_eq_true rfl) (Nat.le_of_ble_eq_true rfl) dX1_init_15 ?_
  refine cv_putF 17 S hin (by omega) (hSP_20_1 X) mpf_X1_init_15 rfl rfl dX1_init_17 ?_
  refine cv_aload_n 20 S 0 0 dX1_init_20 rfl rfl ?_
  refine cv_new 21 S (ci := 6) (C := RX6) (T := TX6) (N := 6) tyX6 (by decide +kernel) tyX6_ok (by decide +kernel) (by decide +kernel) (by decide +kernel) rfl (fs := [.null, .null, .null, .int 0, .int 0, .int 0]) (by rw [show ((sB (sB P 20 0) 20 1)) 23 = (fun _ => false) from by (repeat rw [sB_ne (by omega)]); exact hP 23 (by omega) (by omega), show (M) 23 = (fun _ => 0) from hM 23 (by omega) (by omega)]; rfl) (fun j hj => by rcases (show j = 0 ∨ j = 1 ∨ j = 2 ∨ j = 3 ∨ j = 4 ∨ j = 5 by omega) with rfl | rfl | rfl | rfl | rfl | rfl <;> rfl) (Nat.le_of_ble_eq_true rfl) (Nat.le_of_ble_eq_true rfl) dX1_init_21 ?_
  refine cv_dup 24 S dX1_init_24 rfl ?_
  refine cv_cIN 25 S (rest := [.ref (X.2.2 23), .ref (X.2.2 20)]) (cc_X6_init l X 23 (by unfold isRg; omega) (sB (sB P 20 0) 20 1) M (fun i h1 h2 => hM i (by omega) (by omega))) ⟨va_cnB 0 S.1.2.2.2.2 gX1_init_X6_init_n20 rfl rfl rfl (S.2.2.2.1.2.1 (RX1, 20, yX6_init) (by decide +kernel)) (S.1.2.2.2.2 _ (by decide +kernel)) (by decide +kernel) ⟨Nat.le_of_ble_eq_true rfl, Nat.le_of_ble_eq_true rfl⟩, rfl, S.1.2.2.2.2 _ (by decide +kernel)⟩ rfl (Nat.le_of_ble_eq_true rfl) dX1_init_25 (Nat.le_of_ble_eq_true rfl) (Nat.le_of_ble_eq_true rfl) ?_
  refine cv_putF 28 S hin (by omega) (hSP_20_2 X) mpf_X1_init_21 rfl rfl dX1_init_28 ?_
  exact cv_ret 31 S dX1_init_31
theorem mpf_X3_init_11 : MPF wsX3_init RX3 11 3 0 (.array (.object "FlyFloor$Rig")) := ⟨RX3, TX3, 3, tyX3, rfl, by decide, by decide +kernel, by decide +kernel, tyX3_ok, nmX3, rfl, rfl, by decide +kernel⟩
theorem mfc_X3_init_11 : MF wsX3_init RX3 11 3 0 := ⟨RX3, TX3, 3, rfl, by decide, by decide +kernel, by decide +kernel⟩
abbrev rm_X3_init : Room := { frames := 2, cells := 33, slots := 248, locals := 32 }
set_option maxHeartbeats 4000000 in
set_option maxRecDepth 100000 in
theorem cc_X3_init (l : Launch) (X : GE) (P : PB) (M : MM) (hM : ∀ i, 27 < i → i < 61 → M i = fun _ => 0) (hP : ∀ i, 27 < i → i < 61 → P i = fun _ => false) : CTC l yX3_init wsX3_init rm_X3_init X [.ref (X.2.2 27)] P M 28 (sB (sB (sB (sB (sB (sB (sB (sB (sB (sB (sB (sB (sB (sB (sB (sB (sB (sB (sB (sB (sB (sB (sB (sB (sB (sB (sB (sB (sB (sB (sB (sB (sB P 27 0) 29 0) 29 1) 29 2) 28 (0 : Int32).toNatClampNeg) 33 0) 33 1) 33 2) 28 (1 : Int32).toNatClampNeg) 37 0) 37 1) 37 2) 28 (2 : Int32).toNatClampNeg) 41 0) 41 1) 41 2) 28 (3 : Int32).toNatClampNeg) 45 0) 45 1) 45 2) 28 (4 : Int32).toNatClampNeg) 49 0) 49 1) 49 2) 28 (5 : Int32).toNatClampNeg) 53 0) 53 1) 53 2) 28 (6 : Int32).toNatClampNeg) 57 0) 57 1) 57 2) 28 (7 : Int32).toNatClampNeg) M 61 33 248 := by
  refine ct_C (own := RX3) (by decide +kernel) rfl rfl rfl (Nat.le_of_ble_eq_true rfl) ?_
  intro p e s m args below meth c S hin
  refine cv_aload_n 0 S 0 0 dX3_init_0 rfl rfl ?_
  refine cv_obj 1 S (by decide +kernel) (by decide +kernel) (by decide +kernel) dX3_init_1 (Nat.le_of_ble_eq_true rfl) (Nat.le_of_ble_eq_true rfl) ?_
  refine cv_aload_n 4 S 0 0 dX3_init_4 rfl rfl ?_
  refine cv_bipush 5 S (8 : Int32) dX3_init_5 (by decide) ?_
  refine cv_newq 7 S (C := RX6) (by decide +kernel) S.2.2.2.1.2.2.2 3 rfl 8 (va_at_r X 28 8 3 (fun i => 29 + 4 * i) _ _ (fun _ _ => rfl) (by (repeat rw [sB_ne (by omega)]); exact hP 28 (by omega) (by omega))) (by decide) (by decide) (by decide) (Nat.le_of_ble_eq_true rfl) (Nat.le_of_ble_eq_true rfl) dX3_init_7 ?_
  refine cv_putF 10 S hin (by omega) (hSP_27_0 X) mpf_X3_init_11 rfl rfl dX3_init_10 ?_
  refine cv_iconst 13 S (0 : Int32) dX3_init_13 (by decide) ?_
  refine cv_istore_n 14 S 1 (lv' := [(1, .int (0 : Int32)), (0, .ref (X.2.2 27))]) dX3_init_14 rfl (Nat.le_of_ble_eq_true rfl) rfl ?_
  refine cv_iload_n 15 S 1 0 dX3_init_15 rfl rfl ?_
  refine cv_bipush 16 S (8 : Int32) dX3_init_16 (by decide) ?_
  refine cv_geF 18 S 40 (by decide) dX3_init_18 (by decide) ?_
  refine cv_aload_n 21 S 0 1 dX3_init_21 rfl rfl ?_
  refine cv_get 22 S (by omega) (hFP_27_0 X) (by rfl) mfc_X3_init_11 dX3_init_22 ?_
  refine cv_iload_n 25 S 1 0 dX3_init_25 rfl rfl ?_
  refine cv_new 26 S (ci := 6) (C := RX6) (T := TX6) (N := 6) tyX6 (by decide +kernel) tyX6_ok (by decide +kernel) (by decide +kernel) (by decide +kernel) rfl (fs := [.null, .null, .null, .int 0, .int 0, .int 0]) (by rw [show ((sB P 27 0)) 29 = (fun _ => false) from by (repeat rw [sB_ne (by omega)]); exact hP 29 (by omega) (by omega), show (M) 29 = (fun _ => 0) from hM 29 (by omega) (by omega)]; rfl) (fun j hj => by rcases (show j = 0 ∨ j = 1 ∨ j = 2 ∨ j = 3 ∨ j = 4 ∨ j = 5 by omega) with rfl | rfl | rfl | rfl | rfl | rfl <;> rfl) (Nat.le_of_ble_eq_true rfl) (Nat.le_of_ble_eq_true rfl) dX3_init_26 ?_
  refine cv_dup 29 S dX3_init_29 rfl ?_
  refine cv_cIN 30 S (rest := [.ref (X.2.2 29), .int (0 : Int32), .ref (X.2.2 28)]) (cc_X6_init l X 29 (by unfold isRg; omega) (sB P 27 0) M (fun i h1 h2 => hM i (by omega) (by omega))) ⟨va_cnB 0 S.1.2.2.2.2 gX3_init_X6_init_n17 rfl rfl rfl (S.2.2.2.1.2.1 (RX3, 17, yX6_init) (by decide +kernel)) (S.1.2.2.2.2 _ (by decide +kernel)) (by decide +kernel) ⟨Nat.le_of_ble_eq_true rfl, Nat.le_of_ble_eq_true rfl⟩, rfl, S.1.2.2.2.2 _ (by decide +kernel)⟩ rfl (Nat.le_of_ble_eq_true rfl) dX3_init_30 (Nat.le_of_ble_eq_true rfl) (Nat.le_of_ble_eq_true rfl) ?_
  refine cv_aast 33 S (by omega) (by omega) (L := 8) (t := 3) (g := fun i => 29 + 4 * i) (fun _ _ => rfl) rfl (hOP_Rg (by unfold isRg; omega)) rfl rfl (ib_in (by decide)) dX3_init_33 ?_
  refine cv_iinc 34 S 0 (1 : Int32) (lv' := [(1, .int (1 : Int32)), (0, .ref (X.2.2 27))]) dX3_init_34 rfl (by decide) (Nat.le_of_ble_eq_true rfl) rfl ?_
  refine cv_goto 37 S 15 dX3_init_37 (by decide) ?_
  refine cv_iload_n 15 S 1 0 dX3_init_15 rfl rfl ?_
  refine cv_bipush 16 S (8 : Int32) dX3_init_16 (by decide) ?_
  refine cv_geF 18 S 40 (by decide) dX3_init_18 (by decide) ?_
  refine cv_aload_n 21 S 0 1 dX3_init_21 rfl rfl ?_
  refine cv_get 22 S (by omega) (hFP_27_0 X) (by rfl) mfc_X3_init_11 dX3_init_22 ?_
  refine cv_iload_n 25 S 1 0 dX3_init_25 rfl rfl ?_
  refine cv_new 26 S (ci := 6) (C := RX6) (T := TX6) (N := 6) tyX6 (by decide +kernel) tyX6_ok (by decide +kernel) (by decide +kernel) (by decide +kernel) rfl (fs := [.null, .null, .null, .int 0, .int 0, .int 0]) (by rw [show ((sB (sB (sB (sB (sB P 27 0) 29 0) 29 1) 29 2) 28 (0 : Int32).toNatClampNeg)) 33 = (fun _ => false) from by (repeat rw [sB_ne (by omega)]); exact hP 33 (by omega) (by omega), show (M) 33 = (fun _ => 0) from hM 33 (by omega) (by omega)]; rfl) (fun j hj => by rcases (show j = 0 ∨ j = 1 ∨ j = 2 ∨ j = 3 ∨ j = 4 ∨ j = 5 by omega) with rfl | rfl | rfl | rfl | rfl | rfl <;> rfl) (Nat.le_of_ble_eq_true rfl) (Nat.le_of_ble_eq_true rfl) dX3_init_26 ?_
  refine cv_dup 29 S dX3_init_29 rfl ?_
  refine cv_cIN 30 S (rest := [.ref (X.2.2 33), .int (1 : Int32), .ref (X.2.2 28)]) (cc_X6_init l X 33 (by unfold isRg; omega) (sB (sB (sB (sB (sB P 27 0) 29 0) 29 1) 29 2) 28 (0 : Int32).toNatClampNeg) M (fun i h1 h2 => hM i (by omega) (by omega))) ⟨va_cnB 0 S.1.2.2.2.2 gX3_init_X6_init_n17 rfl rfl rfl (S.2.2.2.1.2.1 (RX3, 17, yX6_init) (by decide +kernel)) (S.1.2.2.2.2 _ (by decide +kernel)) (by decide +kernel) ⟨Nat.le_of_ble_eq_true rfl, Nat.le_of_ble_eq_true rfl⟩, rfl, S.1.2.2.2.2 _ (by decide +kernel)⟩ rfl (Nat.le_of_ble_eq_true rfl) dX3_init_30 (Nat.le_of_ble_eq_true rfl) (Nat.le_of_ble_eq_true rfl) ?_
  refine cv_aast 33 S (by omega) (by omega) (L := 8) (t := 3) (g := fun i => 29 + 4 * i) (fun _ _ => rfl) rfl (hOP_Rg (by unfold isRg; omega)) rfl rfl (ib_in (by decide)) dX3_init_33 ?_
  refine cv_iinc 34 S 0 (2 : Int32) (lv' := [(1, .int (2 : Int32)), (0, .ref (X.2.2 27))]) dX3_init_34 rfl (by decide) (Nat.le_of_ble_eq_true rfl) rfl ?_
  refine cv_goto 37 S 15 dX3_init_37 (by decide) ?_
  refine cv_iload_n 15 S 1 0 dX3_init_15 rfl rfl ?_
  refine cv_bipush 16 S (8 : Int32) dX3_init_16 (by decide) ?_
  refine cv_geF 18 S 40 (by decide) dX3_init_18 (by decide) ?_
  refine cv_aload_n 21 S 0 1 dX3_init_21 rfl rfl ?_
  refine cv_get 22 S (by omega) (hFP_27_0 X) (by rfl) mfc_X3_init_11 dX3_init_22 ?_
  refine cv_iload_n 25 S 1 0 dX3_init_25 rfl rfl ?_
  refine cv_new 26 S (ci := 6) (C := RX6) (T := TX6) (N := 6) tyX6 (by decide +kernel) tyX6_ok (by decide +kernel) (by decide +kernel) (by decide +kernel) rfl (fs := [.null, .null, .null, .int 0, .int 0, .int 0]) (by rw [show ((sB (sB (sB (sB (sB (sB (sB (sB (sB P 27 0) 29 0) 29 1) 29 2) 28 (0 : Int32).toNatClampNeg) 33 0) 33 1) 33 2) 28 (1 : Int32).toNatClampNeg)) 37 = (fun _ => false) from by (repeat rw [sB_ne (by omega)]); exact hP 37 (by omega) (by omega), show (M) 37 = (fun _ => 0) from hM 37 (by omega) (by omega)]; rfl) (fun j hj => by rcases (show j = 0 ∨ j = 1 ∨ j = 2 ∨ j = 3 ∨ j = 4 ∨ j = 5 by omega) with rfl | rfl | rfl | rfl | rfl | rfl <;> rfl) (Nat.le_of_ble_eq_true rfl) (Nat.le_of_ble_eq_true rfl) dX3_init_26 ?_
  refine cv_dup 29 S dX3_init_29 rfl ?_
  refine cv_cIN 30 S (rest := [.ref (X.2.2 37), .int (2 : Int32), .ref (X.2.2 28)]) (cc_X6_init l X 37 (by unfold isRg; omega) (sB (sB (sB (sB (sB (sB (sB (sB (sB P 27 0) 29 0) 29 1) 29 2) 28 (0 : Int32).toNatClampNeg) 33 0) 33 1) 33 2) 28 (1 : Int32).toNatClampNeg) M (fun i h1 h2 => hM i (by omega) (by omega))) ⟨va_cnB 0 S.1.2.2.2.2 gX3_init_X6_init_n17 rfl rfl rfl (S.2.2.2.1.2.1 (RX3, 17, yX6_init) (by decide +kernel)) (S.1.2.2.2.2 _ (by decide +kernel)) (by decide +kernel) ⟨Nat.le_of_ble_eq_true rfl, Nat.le_of_ble_eq_true rfl⟩, rfl, S.1.2.2.2.2 _ (by decide +kernel)⟩ rfl (Nat.le_of_ble_eq_true rfl) dX3_init_30 (Nat.le_of_ble_eq_true rfl) (Nat.le_of_ble_eq_true rfl) ?_
  refine cv_aast 33 S (by omega) (by omega) (L := 8) (t := 3) (g := fun i => 29 + 4 * i) (fun _ _ => rfl) rfl (hOP_Rg (by unfold isRg; omega)) rfl rfl (ib_in (by decide)) dX3_init_33 ?_
  refine cv_iinc 34 S 0 (3 : Int32) (lv' := [(1, .int (3 : Int32)), (0, .ref (X.2.2 27))]) dX3_init_34 rfl (by decide) (Nat.le_of_ble_eq_true rfl) rfl ?_
  refine cv_goto 37 S 15 dX3_init_37 (by decide) ?_
  refine cv_iload_n 15 S 1 0 dX3_init_15 rfl rfl ?_
  refine cv_bipush 16 S (8 : Int32) dX3_init_16 (by decide) ?_
  refine cv_geF 18 S 40 (by decide) dX3_init_18 (by decide) ?_
  refine cv_aload_n 21 S 0 1 dX3_init_21 rfl rfl ?_
  refine cv_get 22 S (by omega) (hFP_27_0 X) (by rfl) mfc_X3_init_11 dX3_init_22 ?_
  refine cv_iload_n 25 S 1 0 dX3_init_25 rfl rfl ?_
  refine cv_new 26 S (ci := 6) (C := RX6) (T := TX6) (N := 6) tyX6 (by decide +kernel) tyX6_ok (by decide +kernel) (by decide +kernel) (by decide +kernel) rfl (fs := [.null, .null, .null, .int 0, .int 0, .int 0]) (by rw [show ((sB (sB (sB (sB (sB (sB (sB (sB (sB (sB (sB (sB (sB P 27 0) 29 0) 29 1) 29 2) 28 (0 : Int32).toNatClampNeg) 33 0) 33 1) 33 2) 28 (1 : Int32).toNatClampNeg) 37 0) 37 1) 37 2) 28 (2 : Int32).toNatClampNeg)) 41 = (fun _ => false) from by (repeat rw [sB_ne (by omega)]); exact hP 41 (by omega) (by omega), show (M) 41 = (fun _ => 0) from hM 41 (by omega) (by omega)]; rfl) (fun j hj => by rcases (show j = 0 ∨ j = 1 ∨ j = 2 ∨ j = 3 ∨ j = 4 ∨ j = 5 by omega) with rfl | rfl | rfl | rfl | rfl | rfl <;> rfl) (Nat.le_of_ble_eq_true rfl) (Nat.le_of_ble_eq_true rfl) dX3_init_26 ?_
  refine cv_dup 29 S dX3_init_29 rfl ?_
  refine cv_cIN 30 S (rest := [.ref (X.2.2 41), .int (3 : Int32), .ref (X.2.2 28)]) (cc_X6_init l X 41 (by unfold isRg; omega) (sB (sB (sB (sB (sB (sB (sB (sB (sB (sB (sB (sB (sB P 27 0) 29 0) 29 1) 29 2) 28 (0 : Int32).toNatClampNeg) 33 0) 33 1) 33 2) 28 (1 : Int32).toNatClampNeg) 37 0) 37 1) 37 2) 28 (2 : Int32).toNatClampNeg) M (fun i h1 h2 => hM i (by omega) (by omega))) ⟨va_cnB 0 S.1.2.2.2.2 gX3_init_X6_init_n17 rfl rfl rfl (S.2.2.2.1.2.1 (RX3, 17, yX6_init) (by decide +kernel)) (S.1.2.2.2.2 _ (by decide +kernel)) (by decide +kernel) ⟨Nat.le_of_ble_eq_true rfl, Nat.le_of_ble_eq_true rfl⟩, rfl, S.1.2.2.2.2 _ (by decide +kernel)⟩ rfl (Nat.le_of_ble_eq_true rfl) dX3_init_30 (Nat.le_of_ble_eq_true rfl) (Nat.le_of_ble_eq_true rfl) ?_
  refine cv_aast 33 S (by omega) (by omega) (L := 8) (t := 3) (g := fun i => 29 + 4 * i) (fun _ _ => rfl) rfl (hOP_Rg (by unfold isRg; omega)) rfl rfl (ib_in (by decide)) dX3_init_33 ?_
  refine cv_iinc 34 S 0 (4 : Int32) (lv' := [(1, .int (4 : Int32)), (0, .ref (X.2.2 27))]) dX3_init_34 rfl (by decide) (Nat.le_of_ble_eq_true rfl) rfl ?_
  refine cv_goto 37 S 15 dX3_init_37 (by decide) ?_
  refine cv_iload_n 15 S 1 0 dX3_init_15 rfl rfl ?_
  refine cv_bipush 16 S (8 : Int32) dX3_init_16 (by decide) ?_
  refine cv_geF 18 S 40 (by decide) dX3_init_18 (by decide) ?_
  refine cv_aload_n 21 S 0 1 dX3_init_21 rfl rfl ?_
  refine cv_get 22 S (by omega) (hFP_27_0 X) (by rfl) mfc_X3_init_11 dX3_init_22 ?_
  refine cv_iload_n 25 S 1 0 dX3_init_25 rfl rfl ?_
  refine cv_new 26 S (ci := 6) (C := RX6) (T := TX6) (N := 6) tyX6 (by decide +kernel) tyX6_ok (by decide +kernel) (by decide +kernel) (by decide +kernel) rfl (fs := [.null, .null, .null, .int 0, .int 0, .int 0]) (by rw [show ((sB (sB (sB (sB (sB (sB (sB (sB (sB (sB (sB (sB (sB (sB (sB (sB (sB P 27 0) 29 0) 29 1) 29 2) 28 (0 : Int32).toNatClampNeg) 33 0) 33 1) 33 2) 28 (1 : Int32).toNatClampNeg) 37 0) 37 1) 37 2) 28 (2 : Int32).toNatClampNeg) 41 0) 41 1) 41 2) 28 (3 : Int32).toNatClampNeg)) 45 = (fun _ => false) from by (repeat rw [sB_ne (by omega)]); exact hP 45 (by omega) (by omega), show (M) 45 = (fun _ => 0) from hM 45 (by omega) (by omega)]; rfl) (fun j hj => by rcases (show j = 0 ∨ j = 1 ∨ j = 2 ∨ j = 3 ∨ j = 4 ∨ j = 5 by omega) with rfl | rfl | rfl | rfl | rfl | rfl <;> rfl) (Nat.le_of_ble_eq_true rfl) (Nat.le_of_ble_eq_true rfl) dX3_init_26 ?_
  refine cv_dup 29 S dX3_init_29 rfl ?_
  refine cv_cIN 30 S (rest := [.ref (X.2.2 45), .int (4 : Int32), .ref (X.2.2 28)]) (cc_X6_init l X 45 (by unfold isRg; omega) (sB (sB (sB (sB (sB (sB (sB (sB (sB (sB (sB (sB (sB (sB (sB (sB (sB P 27 0) 29 0) 29 1) 29 2) 28 (0 : Int32).toNatClampNeg) 33 0) 33 1) 33 2) 28 (1 : Int32).toNatClampNeg) 37 0) 37 1) 37 2) 28 (2 : Int32).toNatClampNeg) 41 0) 41 1) 41 2) 28 (3 : Int32).toNatClampNeg) M (fun i h1 h2 => hM i (by omega) (by omega))) ⟨va_cnB 0 S.1.2.2.2.2 gX3_init_X6_init_n17 rfl rfl rfl (S.2.2.2.1.2.1 (RX3, 17, yX6_init) (by decide +kernel)) (S.1.2.2.2.2 _ (by decide +kernel)) (by decide +kernel) ⟨Nat.le_of_ble_eq_true rfl, Nat.le_of_ble_eq_true rfl⟩, rfl, S.1.2.2.2.2 _ (by decide +kernel)⟩ rfl (Nat.le_of_ble_eq_true rfl) dX3_init_30 (Nat.le_of_ble_eq_true rfl) (Nat.le_of_ble_eq_true rfl) ?_
  refine cv_aast 33 S (by omega) (by omega) (L := 8) (t := 3) (g := fun i => 29 + 4 * i) (fun _ _ => rfl) rfl (hOP_Rg (by unfold isRg; omega)) rfl rfl (ib_in (by decide)) dX3_init_33 ?_
  refine cv_iinc 34 S 0 (5 : Int32) (lv' := [(1, .int (5 : Int32)), (0, .ref (X.2.2 27))]) dX3_init_34 rfl (by decide) (Nat.le_of_ble_eq_true rfl) rfl ?_
  refine cv_goto 37 S 15 dX3_init_37 (by decide) ?_
  refine cv_iload_n 15 S 1 0 dX3_init_15 rfl rfl ?_
  refine cv_bipush 16 S (8 : Int32) dX3_init_16 (by decide) ?_
  refine cv_geF 18 S 40 (by decide) dX3_init_18 (by decide) ?_
  refine cv_aload_n 21 S 0 1 dX3_init_21 rfl rfl ?_
  refine cv_get 22 S (by omega) (hFP_27_0 X) (by rfl) mfc_X3_init_11 dX3_init_22 ?_
  refine cv_iload_n 25 S 1 0 dX3_init_25 rfl rfl ?_
  refine cv_new 26 S (ci := 6) (C := RX6) (T := TX6) (N := 6) tyX6 (by decide +kernel) tyX6_ok (by decide +kernel) (by decide +kernel) (by decide +kernel) rfl (fs := [.null, .null, .null, .int 0, .int 0, .int 0]) (by rw [show ((sB (sB (sB (sB (sB (sB (sB (sB (sB (sB (sB (sB (sB (sB (sB (sB (sB (sB (sB (sB (sB P 27 0) 29 0) 29 1) 29 2) 28 (0 : Int32).toNatClampNeg) 33 0) 33 1) 33 2) 28 (1 : Int32).toNatClampNeg) 37 0) 37 1) 37 2) 28 (2 : Int32).toNatClampNeg) 41 0) 41 1) 41 2) 28 (3 : Int32).toNatClampNeg) 45 0) 45 1) 45 2) 28 (4 : Int32).toNatClampNeg)) 49 = (fun _ => false) from by (repeat rw [sB_ne (by omega)]); exact hP 49 (by omega) (by omega), show (M) 49 = (fun _ => 0) from hM 49 (by omega) (by omega)]; rfl) (fun j hj => by rcases (show j = 0 ∨ j = 1 ∨ j = 2 ∨ j = 3 ∨ j = 4 ∨ j = 5 by omega) with rfl | rfl | rfl | rfl | rfl | rfl <;> rfl) (Nat.le_of_ble_eq_true rfl) (Nat.le_of_ble_eq_true rfl) dX3_init_26 ?_
  refine cv_dup 29 S dX3_init_29 rfl ?_
  refine cv_cIN 30 S (rest := [.ref (X.2.2 49), .int (5 : Int32), .ref (X.2.2 28)]) (cc_X6_init l X 49 (by unfold isRg; omega) (sB (sB (sB (sB (sB (sB (sB (sB (sB (sB (sB (sB (sB (sB (sB (sB (sB (sB (sB (sB (sB P 27 0) 29 0) 29 1) 29 2) 28 (0 : Int32).toNatClampNeg) 33 0) 33 1) 33 2) 28 (1 : Int32).toNatClampNeg) 37 0) 37 1) 37 2) 28 (2 : Int32).toNatClampNeg) 41 0) 41 1) 41 2) 28 (3 : Int32).toNatClampNeg) 45 0) 45 1) 45 2) 28 (4 : Int32).toNatClampNeg) M (fun i h1 h2 => hM i (by omega) (by omega))) ⟨va_cnB 0 S.1.2.2.2.2 gX3_init_X6_init_n17 rfl rfl rfl (S.2.2.2.1.2.1 (RX3, 17, yX6_init) (by decide +kernel)) (S.1.2.2.2.2 _ (by decide +kernel)) (by decide +kernel) ⟨Nat.le_of_ble_eq_true rfl, Nat.le_of_ble_eq_true rfl⟩, rfl, S.1.2.2.2.2 _ (by decide +kernel)⟩ rfl (Nat.le_of_ble_eq_true rfl) dX3_init_30 (Nat.le_of_ble_eq_true rfl) (Nat.le_of_ble_eq_true rfl) ?_
  refine cv_aast 33 S (by omega) (by omega) (L := 8) (t := 3) (g := fun i => 29 + 4 * i) (fun _ _ => rfl) rfl (hOP_Rg (by unfold isRg; omega)) rfl rfl (ib_in (by decide)) dX3_init_33 ?_
  refine cv_iinc 34 S 0 (6 : Int32) (lv' := [(1, .int (6 : Int32)), (0, .ref (X.2.2 27))]) dX3_init_34 rfl (by decide) (Nat.le_of_ble_eq_true rfl) rfl ?_
  refine cv_goto 37 S 15 dX3_init_37 (by decide) ?_
  refine cv_iload_n 15 S 1 0 dX3_init_15 rfl rfl ?_
  refine cv_bipush 16 S (8 : Int32) dX3_init_16 (by decide) ?_
  refine cv_geF 18 S 40 (by decide) dX3_init_18 (by decide) ?_
  refine cv_aload_n 21 S 0 1 dX3_init_21 rfl rfl ?_
  refine cv_get 22 S (by omega) (hFP_27_0 X) (by rfl) mfc_X3_init_11 dX3_init_22 ?_
  refine cv_iload_n 25 S 1 0 dX3_init_25 rfl rfl ?_
  refine cv_new 26 S (ci := 6) (C := RX6) (T := TX6) (N := 6) tyX6 (by decide +kernel) tyX6_ok (by decide +kernel) (by decide +kernel) (by decide +kernel) rfl (fs := [.null, .null, .null, .int 0, .int 0, .int 0]) (by rw [show ((sB (sB (sB (sB (sB (sB (sB (sB (sB (sB (sB (sB (sB (sB (sB (sB (sB (sB (sB (sB (sB (sB (sB (sB (sB P 27 0) 29 0) 29 1) 29 2) 28 (0 : Int32).toNatClampNeg) 33 0) 33 1) 33 2) 28 (1 : Int32).toNatClampNeg) 37 0) 37 1) 37 2) 28 (2 : Int32).toNatClampNeg) 41 0) 41 1) 41 2) 28 (3 : Int32).toNatClampNeg) 45 0) 45 1) 45 2) 28 (4 : Int32).toNatClampNeg) 49 0) 49 1) 49 2) 28 (5 : Int32).toNatClampNeg)) 53 = (fun _ => false) from by (repeat rw [sB_ne (by omega)]); exact hP 53 (by omega) (by omega), show (M) 53 = (fun _ => 0) from hM 53 (by omega) (by omega)]; rfl) (fun j hj => by rcases (show j = 0 ∨ j = 1 ∨ j = 2 ∨ j = 3 ∨ j = 4 ∨ j = 5 by omega) with rfl | rfl | rfl | rfl | rfl | rfl <;> rfl) (Nat.le_of_ble_eq_true rfl) (Nat.le_of_ble_eq_true rfl) dX3_init_26 ?_
  refine cv_dup 29 S dX3_init_29 rfl ?_
  refine cv_cIN 30 S (rest := [.ref (X.2.2 53), .int (6 : Int32), .ref (X.2.2 28)]) (cc_X6_init l X 53 (by unfold isRg; omega) (sB (sB (sB (sB (sB (sB (sB (sB (sB (sB (sB (sB (sB (sB (sB (sB (sB (sB (sB (sB (sB (sB (sB (sB (sB P 27 0) 29 0) 29 1) 29 2) 28 (0 : Int32).toNatClampNeg) 33 0) 33 1) 33 2) 28 (1 : Int32).toNatClampNeg) 37 0) 37 1) 37 2) 28 (2 : Int32).toNatClampNeg) 41 0) 41 1) 41 2) 28 (3 : Int32).toNatClampNeg) 45 0) 45 1) 45 2) 28 (4 : Int32).toNatClampNeg) 49 0) 49 1) 49 2) 28 (5 : Int32).toNatClampNeg) M (fun i h1 h2 => hM i (by omega) (by omega))) ⟨va_cnB 0 S.1.2.2.2.2 gX3_init_X6_init_n17 rfl rfl rfl (S.2.2.2.1.2.1 (RX3, 17, yX6_init) (by decide +kernel)) (S.1.2.2.2.2 _ (by decide +kernel)) (by decide +kernel) ⟨Nat.le_of_ble_eq_true rfl, Nat.le_of_ble_eq_true rfl⟩, rfl, S.1.2.2.2.2 _ (by decide +kernel)⟩ rfl (Nat.le_of_ble_eq_true rfl) dX3_init_30 (Nat.le_of_ble_eq_true rfl) (Nat.le_of_ble_eq_true rfl) ?_
  refine cv_aast 33 S (by omega) (by omega) (L := 8) (t := 3) (g := fun i => 29 + 4 * i) (fun _ _ => rfl) rfl (hOP_Rg (by unfold isRg; omega)) rfl rfl (ib_in (by decide)) dX3_init_33 ?_
  refine cv_iinc 34 S 0 (7 : Int32) (lv' := [(1, .int (7 : Int32)), (0, .ref (X.2.2 27))]) dX3_init_34 rfl (by decide) (Nat.le_of_ble_eq_true rfl) rfl ?_
  refine cv_goto 37 S 15 dX3_init_37 (by decide) ?_
  refine cv_iload_n 15 S 1 0 dX3_init_15 rfl rfl ?_
  refine cv_bipush 16 S (8 : Int32) dX3_init_16 (by decide) ?_
  refine cv_geF 18 S 40 (by decide) dX3_init_18 (by decide) ?_
  refine cv_aload_n 21 S 0 1 dX3_init_21 rfl rfl ?_
  refine cv_get 22 S (by omega) (hFP_27_0 X) (by rfl) mfc_X3_init_11 dX3_init_22 ?_
  refine cv_iload_n 25 S 1 0 dX3_init_25 rfl rfl ?_
  refine cv_new 26 S (ci := 6) (C := RX6) (T := TX6) (N := 6) tyX6 (by decide +kernel) tyX6_ok (by decide +kernel) (by decide +kernel) (by decide +kernel) rfl (fs := [.null, .null, .null, .int 0, .int 0, .int 0]) (by rw [show ((sB (sB (sB (sB (sB (sB (sB (sB (sB (sB (sB (sB (sB (sB (sB (sB (sB (sB (sB (sB (sB (sB (sB (sB (sB (sB (sB (sB (sB P 27 0) 29 0) 29 1) 29 2) 28 (0 : Int32).toNatClampNeg) 33 0) 33 1) 33 2) 28 (1 : Int32).toNatClampNeg) 37 0) 37 1) 37 2) 28 (2 : Int32).toNatClampNeg) 41 0) 41 1) 41 2) 28 (3 : Int32).toNatClampNeg) 45 0) 45 1) 45 2) 28 (4 : Int32).toNatClampNeg) 49 0) 49 1) 49 2) 28 (5 : Int32).toNatClampNeg) 53 0) 53 1) 53 2) 28 (6 : Int32).toNatClampNeg)) 57 = (fun _ => false) from by (repeat rw [sB_ne (by omega)]); exact hP 57 (by omega) (by omega), show (M) 57 = (fun _ => 0) from hM 57 (by omega) (by omega)]; rfl) (fun j hj => by rcases (show j = 0 ∨ j = 1 ∨ j = 2 ∨ j = 3 ∨ j = 4 ∨ j = 5 by omega) with rfl | rfl | rfl | rfl | rfl | rfl <;> rfl) (Nat.le_of_ble_eq_true rfl) (Nat.le_of_ble_eq_true rfl) dX3_init_26 ?_
  refine cv_dup 29 S dX3_init_29 rfl ?_
  refine cv_cIN 30 S (rest := [.ref (X.2.2 57), .int (7 : Int32), .ref (X.2.2 28)]) (cc_X6_init l X 57 (by unfold isRg; omega) (sB (sB (sB (sB (sB (sB (sB (sB (sB (sB (sB (sB (sB (sB (sB (sB (sB (sB (sB (sB (sB (sB (sB (sB (sB (sB (sB (sB (sB P 27 0) 29 0) 29 1) 29 2) 28 (0 : Int32).toNatClampNeg) 33 0) 33 1) 33 2) 28 (1 : Int32).toNatClampNeg) 37 0) 37 1) 37 2) 28 (2 : Int32).toNatClampNeg) 41 0) 41 1) 41 2) 28 (3 : Int32).toNatClampNeg) 45 0) 45 1) 45 2) 28 (4 : Int32).toNatClampNeg) 49 0) 49 1) 49 2) 28 (5 : Int32).toNatClampNeg) 53 0) 53 1) 53 2) 28 (6 : Int32).toNatClampNeg) M (fun i h1 h2 => hM i (by omega) (by omega))) ⟨va_cnB 0 S.1.2.2.2.2 gX3_init_X6_init_n17 rfl rfl rfl (S.2.2.2.1.2.1 (RX3, 17, yX6_init) (by decide +kernel)) (S.1.2.2.2.2 _ (by decide +kernel)) (by decide +kernel) ⟨Nat.le_of_ble_eq_true rfl, Nat.le_of_ble_eq_true rfl⟩, rfl, S.1.2.2.2.2 _ (by decide +kernel)⟩ rfl (Nat.le_of_ble_eq_true rfl) dX3_init_30 (Nat.le_of_ble_eq_true rfl) (Nat.le_of_ble_eq_true rfl) ?_
  refine cv_aast 33 S (by omega) (by omega) (L := 8) (t := 3) (g := fun i => 29 + 4 * i) (fun _ _ => rfl) rfl (hOP_Rg (by unfold isRg; omega)) rfl rfl (ib_in (by decide)) dX3_init_33 ?_
  refine cv_iinc 34 S 0 (8 : Int32) (lv' := [(1, .int (8 : Int32)), (0, .ref (X.2.2 27))]) dX3_init_34 rfl (by decide) (Nat.le_of_ble_eq_true rfl) rfl ?_
  refine cv_goto 37 S 15 dX3_init_37 (by decide) ?_
  refine cv_iload_n 15 S 1 0 dX3_init_15 rfl rfl ?_
  refine cv_bipush 16 S (8 : Int32) dX3_init_16 (by decide) ?_
  refine cv_geT 18 S 40 (by decide) dX3_init_18 (by decide) ?_
  exact cv_ret 40 S dX3_init_40
theorem mpf_X5_init_9 : MPF wsX5_init RX5 9 5 0 (.array .int) := ⟨RX5, TX5, 4, tyX5, rfl, by decide, by decide +kernel, by decide +kernel, tyX5_ok, nmX5, rfl, rfl, by decide +kernel⟩
theorem mpf_X5_init_15 : MPF wsX5_init RX5 15 5 1 (.array .int) := ⟨RX5, TX5, 4, tyX5, rfl, by decide, by decide +kernel, by decide +kernel, tyX5_ok, nmX5, rfl, rfl, by decide +kernel⟩
theorem mpf_X5_init_18 : MPF wsX5_init RX5 18 5 2 (.array .int) := ⟨RX5, TX5, 4, tyX5, rfl, by decide, by decide +kernel, by decide +kernel, tyX5_ok, nmX5, rfl, rfl, by decide +kernel⟩
abbrev rm_X5_init : Room := { frames := 1, cells := 3, slots := 24, locals := 12 }
set_option maxHeartbeats 4000000 in
set_option maxRecDepth 100000 in
theorem cc_X5_init (l : Launch) (X : GE) (P : PB) (M : MM) (hM : ∀ i, 61 < i → i < 65 → M i = fun _ => 0) (hP : ∀ i, 61 < i → i < 65 → P i = fun _ => false) : CTC l yX5_init wsX5_init rm_X5_init X [.ref (X.2.2 61)] P M 62 (sB (sB (sB P 61 0) 61 1) 61 2) M 65 3 24 := by
  refine ct_C (own := RX5) (by decide +kernel) rfl rfl rfl (Nat.le_of_ble_eq_true rfl) ?_
  intro p e s m args below meth c S hin
  refine cv_aload_n 0 S 0 0 dX5_init_0 rfl rfl ?_
  refine cv_obj 1 S (by decide +kernel) (by decide +kernel) (by decide +kernel) dX5_init_1 (Nat.le_of_ble_eq_true rfl) (Nat.le_of_ble_eq_true rfl) ?_
  refine cv_aload_n 4 S 0 0 dX5_init_4 rfl rfl ?_
  refine cv_bipush 5 S (8 : Int32) dX5_init_5 (by decide) ?_
  refine cv_newa 7 S (atype := .int) (by decide +kernel) 0 rfl (fun h => h) 8 (va_at_i X 62 8 M _ (fun _ _ => rfl) (hM 62 (by omega) (by omega))) (by decide) (by decide) (by decide) (Nat.le_of_ble_eq_true rfl) (Nat.le_of_ble_eq_true rfl) dX5_init_7 ?_
  refine cv_putF 9 S hin (by omega) (hSP_61_0 X) mpf_X5_init_9 rfl rfl dX5_init_9 ?_
  refine cv_aload_n 12 S 0 0 dX5_init_12 rfl rfl ?_
  refine cv_bipush 13 S (8 : Int32) dX5_init_13 (by decide) ?_
  refine cv_newa 15 S (atype := .int) (by decide +kernel) 0 rfl (fun h => h) 8 (va_at_i X 63 8 M _ (fun _ _ => rfl) (hM 63 (by omega) (by omega))) (by decide) (by decide) (by decide) (Nat.le_of_ble_eq_true rfl) (Nat.le_of_ble_eq_true rfl) dX5_init_15 ?_
  refine cv_putF 17 S hin (by omega) (hSP_61_1 X) mpf_X5_init_15 rfl rfl dX5_init_17 ?_
  refine cv_aload_n 20 S 0 0 dX5_init_20 rfl rfl ?_
  refine cv_bipush 21 S (8 : Int32) dX5_init_21 (by decide) ?_
  refine cv_newa 23 S (atype := .int) (by decide +kernel) 0 rfl (fun h => h) 8 (va_at_i X 64 8 M _ (fun _ _ => rfl) (hM 64 (by omega) (by omega))) (by decide) (by decide) (by decide) (Nat.le_of_ble_eq_true rfl) (Nat.le_of_ble_eq_true rfl) dX5_init_23 ?_
  refine cv_putF 25 S hin (by omega) (hSP_61_2 X) mpf_X5_init_18 rfl rfl dX5_init_25 ?_
  exact cv_ret 28 S dX5_init_28
theorem mpf_X2_init_9 : MPF wsX2_init RX2 9 2 0 (.array .int) := ⟨RX2, TX2, 3, tyX2, rfl, by decide, by decide +kernel, by decide +kernel, tyX2_ok, nmX2, rfl, rfl, by decide +kernel⟩
theorem mpf_X2_init_15 : MPF wsX2_init RX2 15 2 1 (.array .int) := ⟨RX2, TX2, 3, tyX2, rfl, by decide, by decide +kernel, by decide +kernel, tyX2_ok, nmX2, rfl, rfl, by decide +kernel⟩
abbrev rm_X2_init : Room := { frames := 1, cells := 2, slots := 40, locals := 12 }
set_option maxHeartbeats 4000000 in
set_option maxRecDepth 100000 in
theorem cc_X2_init (l : Launch) (X : GE) (P : PB) (M : MM) (hM : ∀ i, 65 < i → i < 68 → M i = fun _ => 0) (hP : ∀ i, 65 < i → i < 68 → P i = fun _ => false) : CTC l yX2_init wsX2_init rm_X2_init X [.ref (X.2.2 65)] P M 66 (sB (sB P 65 0) 65 1) M 68 2 40 := by
  refine ct_C (own := RX2) (by decide +kernel) rfl rfl rfl (Nat.le_of_ble_eq_true rfl) ?_
  intro p e s m args below meth c S hin
  refine cv_aload_n 0 S 0 0 dX2_init_0 rfl rfl ?_
  refine cv_obj 1 S (by decide +kernel) (by decide +kernel) (by decide +kernel) dX2_init_1 (Nat.le_of_ble_eq_true rfl) (Nat.le_of_ble_eq_true rfl) ?_
  refine cv_aload_n 4 S 0 0 dX2_init_4 rfl rfl ?_
  refine cv_bipush 5 S (20 : Int32) dX2_init_5 (by decide) ?_
  refine cv_newa 7 S (atype := .int) (by decide +kernel) 0 rfl (fun h => h) 20 (va_at_i X 66 20 M _ (fun _ _ => rfl) (hM 66 (by omega) (by omega))) (by decide) (by decide) (by decide) (Nat.le_of_ble_eq_true rfl) (Nat.le_of_ble_eq_true rfl) dX2_init_7 ?_
  refine cv_putF 9 S hin (by omega) (hSP_65_0 X) mpf_X2_init_9 rfl rfl dX2_init_9 ?_
  refine cv_aload_n 12 S 0 0 dX2_init_12 rfl rfl ?_
  refine cv_bipush 13 S (20 : Int32) dX2_init_13 (by decide) ?_
  refine cv_newa 15 S (atype := .int) (by decide +kernel) 0 rfl (fun h => h) 20 (va_at_i X 67 20 M _ (fun _ _ => rfl) (hM 67 (by omega) (by omega))) (by decide) (by decide) (by decide) (Nat.le_of_ble_eq_true rfl) (Nat.le_of_ble_eq_true rfl) dX2_init_15 ?_
  refine cv_putF 17 S hin (by omega) (hSP_65_1 X) mpf_X2_init_15 rfl rfl dX2_init_17 ?_
  exact cv_ret 20 S dX2_init_20
theorem mpf_X0_init_9 : MPF wsX0_init RX0 9 0 0 (.array .int) := ⟨RX0, TX0, 5, tyX0, rfl, by decide, by decide +kernel, by decide +kernel, tyX0_ok, nmX0, rfl, rfl, by decide +kernel⟩
theorem mpf_X0_init_15 : MPF wsX0_init RX0 15 0 1 (.array .int) := ⟨RX0, TX0, 5, tyX0, rfl, by decide, by decide +kernel, by decide +kernel, tyX0_ok, nmX0, rfl, rfl, by decide +kernel⟩
abbrev rm_X0_init : Room := { frames := 1, cells := 2, slots := 16, locals := 12 }
set_option maxHeartbeats 4000000 in
set_option maxRecDepth 100000 in
theorem cc_X0_init (l : Launch) (X : GE) (P : PB) (M : MM) (hM : ∀ i, 68 < i → i < 71 → M i = fun _ => 0) (hP : ∀ i, 68 < i → i < 71 → P i = fun _ => false) : CTC l yX0_init wsX0_init rm_X0_init X [.ref (X.2.2 68)] P M 69 (sB (sB P 68 0) 68 1) M 71 2 16 := by
  refine ct_C (own := RX0) (by decide +kernel) rfl rfl rfl (Nat.le_of_ble_eq_true rfl) ?_
  intro p e s m args below meth c S hin
  refine cv_aload_n 0 S 0 0 dX0_init_0 rfl rfl ?_
  refine cv_obj 1 S (by decide +kernel) (by decide +kernel) (by decide +kernel) dX0_init_1 (Nat.le_of_ble_eq_true rfl) (Nat.le_of_ble_eq_true rfl) ?_
  refine cv_aload_n 4 S 0 0 dX0_init_4 rfl rfl ?_
  refine cv_bipush 5 S (8 : Int32) dX0_init_5 (by decide) ?_
  refine cv_newa 7 S (atype := .int) (by decide +kernel) 0 rfl (fun h => h) 8 (va_at_i X 69 8 M _ (fun _ _ => rfl) (hM 69 (by omega) (by omega))) (by decide) (by decide) (by decide) (Nat.le_of_ble_eq_true rfl) (Nat.le_of_ble_eq_true rfl) dX0_init_7 ?_
  refine cv_putF 9 S hin (by omega) (hSP_68_0 X) mpf_X0_init_9 rfl rfl dX0_init_9 ?_
  refine cv_aload_n 12 S 0 0 dX0_init_12 rfl rfl ?_
  refine cv_bipush 13 S (8 : Int32) dX0_init_13 (by decide) ?_
  refine cv_newa 15 S (atype := .int) (by decide +kernel) 0 rfl (fun h => h) 8 (va_at_i X 70 8 M _ (fun _ _ => rfl) (hM 70 (by omega) (by omega))) (by decide) (by decide) (by decide) (Nat.le_of_ble_eq_true rfl) (Nat.le_of_ble_eq_true rfl) dX0_init_15 ?_
  refine cv_putF 17 S hin (by omega) (hSP_68_1 X) mpf_X0_init_15 rfl rfl dX0_init_17 ?_
  exact cv_ret 20 S dX0_init_20
theorem mpf_X4_init_11 : MPF wsX4_init RX4 11 4 0 (.array .int) := ⟨RX4, TX4, 6, tyX4, rfl, by decide, by decide +kernel, by decide +kernel, tyX4_ok, nmX4, rfl, rfl, by decide +kernel⟩
theorem mpf_X4_init_15 : MPF wsX4_init RX4 15 4 1 (.array .int) := ⟨RX4, TX4, 6, tyX4, rfl, by decide, by decide +kernel, by decide +kernel, tyX4_ok, nmX4, rfl, rfl, by decide +kernel⟩
theorem mpf_X4_init_18 : MPF wsX4_init RX4 18 4 2 (.array .int) := ⟨RX4, TX4, 6, tyX4, rfl, by decide, by decide +kernel, by decide +kernel, tyX4_ok, nmX4, rfl, rfl, by decide +kernel⟩
theorem mpf_X4_init_21 : MPF wsX4_init RX4 21 4 3 (.array .int) := ⟨RX4, TX4, 6, tyX4, rfl, by decide, by decide +kernel, by decide +kernel, tyX4_ok, nmX4, rfl, rfl, by decide +kernel⟩
abbrev rm_X4_init : Room := { frames := 1, cells := 4, slots := 146, locals := 12 }
set_option maxHeartbeats 4000000 in
set_option maxRecDepth 100000 in
theorem cc_X4_init (l : Launch) (X : GE) (P : PB) (M : MM) (hM : ∀ i, 71 < i → i < 76 → M i = fun _ => 0) (hP : ∀ i, 71 < i → i < 76 → P i = fun _ => false) : CTC l yX4_init wsX4_init rm_X4_init X [.ref (X.2.2 71)] P M 72 (sB (sB (sB (sB P 71 0) 71 1) 71 2) 71 3) M 76 4 146 := by
  refine ct_C (own := RX4) (by decide +kernel) rfl rfl rfl (Nat.le_of_ble_eq_true rfl) ?_
  intro p e s m args below meth c S hin
  refine cv_aload_n 0 S 0 0 dX4_init_0 rfl rfl ?_
  refine cv_obj 1 S (by decide +kernel) (by decide +kernel) (by decide +kernel) dX4_init_1 (Nat.le_of_ble_eq_true rfl) (Nat.le_of_ble_eq_true rfl) ?_
  refine cv_aload_n 4 S 0 0 dX4_init_4 rfl rfl ?_
  refine cv_bipush 5 S (24 : Int32) dX4_init_5 (by decide) ?_
  refine cv_newa 7 S (atype := .int) (by decide +kernel) 0 rfl (fun h => h) 24 (va_at_i X 72 24 M _ (fun _ _ => rfl) (hM 72 (by omega) (by omega))) (by decide) (by decide) (by decide) (Nat.le_of_ble_eq_true rfl) (Nat.le_of_ble_eq_true rfl) dX4_init_7 ?_
  refine cv_putF 9 S hin (by omega) (hSP_71_0 X) mpf_X4_init_11 rfl rfl dX4_init_9 ?_
  refine cv_aload_n 12 S 0 0 dX4_init_12 rfl rfl ?_
  refine cv_bipush 13 S (24 : Int32) dX4_init_13 (by decide) ?_
  refine cv_newa 15 S (atype := .int) (by decide +kernel) 0 rfl (fun h => h) 24 (va_at_i X 73 24 M _ (fun _ _ => rfl) (hM 73 (by omega) (by omega))) (by decide) (by decide) (by decide) (Nat.le_of_ble_eq_true rfl) (Nat.le_of_ble_eq_true rfl) dX4_init_15 ?_
  refine cv_putF 17 S hin (by omega) (hSP_71_1 X) mpf_X4_init_15 rfl rfl dX4_init_17 ?_
  refine cv_aload_n 20 S 0 0 dX4_init_20 rfl rfl ?_
  refine cv_bipush 21 S (90 : Int32) dX4_init_21 (by decide) ?_
  refine cv_newa 23 S (atype := .int) (by decide +kernel) 0 rfl (fun h => h) 90 (va_at_i X 74 90 M _ (fun _ _ => rfl) (hM 74 (by omega) (by omega))) (by decide) (by decide) (by decide) (Nat.le_of_ble_eq_true rfl) (Nat.le_of_ble_eq_true rfl) dX4_init_23 ?_
  refine cv_putF 25 S hin (by omega) (hSP_71_2 X) mpf_X4_init_18 rfl rfl dX4_init_25 ?_
  refine cv_aload_n 28 S 0 0 dX4_init_28 rfl rfl ?_
  refine cv_bipush 29 S (8 : Int32) dX4_init_29 (by decide) ?_
  refine cv_newa 31 S (atype := .int) (by decide +kernel) 0 rfl (fun h => h) 8 (va_at_i X 75 8 M _ (fun _ _ => rfl) (hM 75 (by omega) (by omega))) (by decide) (by decide) (by decide) (Nat.le_of_ble_eq_true rfl) (Nat.le_of_ble_eq_true rfl) dX4_init_31 ?_
  refine cv_putF 33 S hin (by omega) (hSP_71_3 X) mpf_X4_init_21 rfl rfl dX4_init_33 ?_
  exact cv_ret 36 S dX4_init_36
theorem mpf_X8_init_11 : MPF wsX8_init RX8 11 8 0 (.array .int) := ⟨RX8, TX8, 7, tyX8, rfl, by decide, by decide +kernel, by decide +kernel, tyX8_ok, nmX8, rfl, rfl, by decide +kernel⟩
theorem mpf_X8_init_15 : MPF wsX8_init RX8 15 8 1 (.array .int) := ⟨RX8, TX8, 7, tyX8, rfl, by decide, by decide +kernel, by decide +kernel, tyX8_ok, nmX8, rfl, rfl, by decide +kernel⟩
theorem mpf_X8_init_18 : MPF wsX8_init RX8 18 8 2 (.array .int) := ⟨RX8, TX8, 7, tyX8, rfl, by decide, by decide +kernel, by decide +kernel, tyX8_ok, nmX8, rfl, rfl, by decide +kernel⟩
theorem mpf_X8_init_21 : MPF wsX8_init RX8 21 8 3 (.array .int) := ⟨RX8, TX8, 7, tyX8, rfl, by decide, by decide +kernel, by decide +kernel, tyX8_ok, nmX8, rfl, rfl, by decide +kernel⟩
theorem mpf_X8_init_24 : MPF wsX8_init RX8 24 8 4 (.array .int) := ⟨RX8, TX8, 7, tyX8, rfl, by decide, by decide +kernel, by decide +kernel, tyX8_ok, nmX8, rfl, rfl, by decide +kernel⟩
theorem mpf_X8_init_27 : MPF wsX8_init RX8 27 8 5 (.array .int) := ⟨RX8, TX8, 7, tyX8, rfl, by decide, by decide +kernel, by decide +kernel, tyX8_ok, nmX8, rfl, rfl, by decide +kernel⟩
abbrev rm_X8_init : Room := { frames := 1, cells := 6, slots := 90, locals := 12 }
set_option maxHeartbeats 4000000 in
set_option maxRecDepth 100000 in
theorem cc_X8_init (l : Launch) (X : GE) (P : PB) (M : MM) (hM : ∀ i, 76 < i → i < 83 → M i = fun _ => 0) (hP : ∀ i, 76 < i → i < 83 → P i = fun _ => false) : CTC l yX8_init wsX8_init rm_X8_init X [.ref (X.2.2 76)] P M 77 (sB (sB (sB (sB (sB (sB P 76 0) 76 1) 76 2) 76 3) 76 4) 76 5) M 83 6 90 := by
  refine ct_C (own := RX8) (by decide +kernel) rfl rfl rfl (Nat.le_of_ble_eq_true rfl) ?_
  intro p e s m args below meth c S hin
  refine cv_aload_n 0 S 0 0 dX8_init_0 rfl rfl ?_
  refine cv_obj 1 S (by decide +kernel) (by decide +kernel) (by decide +kernel) dX8_init_1 (Nat.le_of_ble_eq_true rfl) (Nat.le_of_ble_eq_true rfl) ?_
  refine cv_aload_n 4 S 0 0 dX8_init_4 rfl rfl ?_
  refine cv_bipush 5 S (32 : Int32) dX8_init_5 (by decide) ?_
  refine cv_newa 7 S (atype := .int) (by decide +kernel) 0 rfl (fun h => h) 32 (va_at_i X 77 32 M _ (fun _ _ => rfl) (hM 77 (by omega) (by omega))) (by decide) (by decide) (by decide) (Nat.le_of_ble_eq_true rfl) (Nat.le_of_ble_eq_true rfl) dX8_init_7 ?_
  refine cv_putF 9 S hin (by omega) (hSP_76_0 X) mpf_X8_init_11 rfl rfl dX8_init_9 ?_
  refine cv_aload_n 12 S 0 0 dX8_init_12 rfl rfl ?_
  refine cv_bipush 13 S (32 : Int32) dX8_init_13 (by decide) ?_
  refine cv_newa 15 S (atype := .int) (by decide +kernel) 0 rfl (fun h => h) 32 (va_at_i X 78 32 M _ (fun _ _ => rfl) (hM 78 (by omega) (by omega))) (by decide) (by decide) (by decide) (Nat.le_of_ble_eq_true rfl) (Nat.le_of_ble_eq_true rfl) dX8_init_15 ?_
  refine cv_putF 17 S hin (by omega) (hSP_76_1 X) mpf_X8_init_15 rfl rfl dX8_init_17 ?_
  refine cv_aload_n 20 S 0 0 dX8_init_20 rfl rfl ?_
  refine cv_bipush 21 S (8 : Int32) dX8_init_21 (by decide) ?_
  refine cv_newa 23 S (atype := .int) (by decide +kernel) 0 rfl (fun h => h) 8 (va_at_i X 79 8 M _ (fun _ _ => rfl) (hM 79 (by omega) (by omega))) (by decide) (by decide) (by decide) (Nat.le_of_ble_eq_true rfl) (Nat.le_of_ble_eq_true rfl) dX8_init_23 ?_
  refine cv_putF 25 S hin (by omega) (hSP_76_2 X) mpf_X8_init_18 rfl rfl dX8_init_25 ?_
  refine cv_aload_n 28 S 0 0 dX8_init_28 rfl rfl ?_
  refine cv_bipush 29 S (8 : Int32) dX8_init_29 (by decide) ?_
  refine cv_newa 31 S (atype := .int) (by decide +kernel) 0 rfl (fun h => h) 8 (va_at_i X 80 8 M _ (fun _ _ => rfl) (hM 80 (by omega) (by omega))) (by decide) (by decide) (by decide) (Nat.le_of_ble_eq_true rfl) (Nat.le_of_ble_eq_true rfl) dX8_init_31 ?_
  refine cv_putF 33 S hin (by omega) (hSP_76_3 X) mpf_X8_init_21 rfl rfl dX8_init_33 ?_
  refine cv_aload_n 36 S 0 0 dX8_init_36 rfl rfl ?_
  refine cv_iconst 37 S (5 : Int32) dX8_init_37 (by decide) ?_
  refine cv_newa 38 S (atype := .int) (by decide +kernel) 0 rfl (fun h => h) 5 (va_at_i X 81 5 M _ (fun _ _ => rfl) (hM 81 (by omega) (by omega))) (by decide) (by decide) (by decide) (Nat.le_of_ble_eq_true rfl) (Nat.le_of_ble_eq_true rfl) dX8_init_38 ?_
  refine cv_putF 40 S hin (by omega) (hSP_76_4 X) mpf_X8_init_24 rfl rfl dX8_init_40 ?_
  refine cv_aload_n 43 S 0 0 dX8_init_43 rfl rfl ?_
  refine cv_iconst 44 S (5 : Int32) dX8_init_44 (by decide) ?_
  refine cv_newa 45 S (atype := .int) (by decide +kernel) 0 rfl (fun h => h) 5 (va_at_i X 82 5 M _ (fun _ _ => rfl) (hM 82 (by omega) (by omega))) (by decide) (by decide) (by decide) (Nat.le_of_ble_eq_true rfl) (Nat.le_of_ble_eq_true rfl) dX8_init_45 ?_
  refine cv_putF 47 S hin (by omega) (hSP_76_5 X) mpf_X8_init_27 rfl rfl dX8_init_47 ?_
  exact cv_ret 50 S dX8_init_50
theorem mpf_X11_init_9 : MPF wsX11_init RX11 9 10 2 (.array .int) := ⟨RX11, TX11, 39, tyX11, rfl, by decide, by decide +kernel, by decide +kernel, tyX11_ok, nmX11, rfl, rfl, by decide +kernel⟩
theorem mpf_X11_init_13 : MPF wsX11_init RX11 13 10 3 (.array .int) := ⟨RX11, TX11, 39, tyX11, rfl, by decide, by decide +kernel, by decide +kernel, tyX11_ok, nmX11, rfl, rfl, by decide +kernel⟩
theorem mpf_X11_init_16 : MPF wsX11_init RX11 16 10 4 (.array .int) := ⟨RX11, TX11, 39, tyX11, rfl, by decide, by decide +kernel, by decide +kernel, tyX11_ok, nmX11, rfl, rfl, by decide +kernel⟩
theorem mpf_X11_init_19 : MPF wsX11_init RX11 19 10 9 (.array .int) := ⟨RX11, TX11, 39, tyX11, rfl, by decide, by decide +kernel, by decide +kernel, tyX11_ok, nmX11, rfl, rfl, by decide +kernel⟩
theorem mpf_X11_init_22 : MPF wsX11_init RX11 22 10 10 (.array .int) := ⟨RX11, TX11, 39, tyX11, rfl, by decide, by decide +kernel, by decide +kernel, tyX11_ok, nmX11, rfl, rfl, by decide +kernel⟩
theorem mpf_X11_init_25 : MPF wsX11_init RX11 25 10 11 (.array .int) := ⟨RX11, TX11, 39, tyX11, rfl, by decide, by decide +kernel, by decide +kernel, tyX11_ok, nmX11, rfl, rfl, by decide +kernel⟩
theorem mpf_X11_init_28 : MPF wsX11_init RX11 28 10 12 (.array .int) := ⟨RX11, TX11, 39, tyX11, rfl, by decide, by decide +kernel, by decide +kernel, tyX11_ok, nmX11, rfl, rfl, by decide +kernel⟩
theorem mpf_X11_init_31 : MPF wsX11_init RX11 31 10 13 (.array .int) := ⟨RX11, TX11, 39, tyX11, rfl, by decide, by decide +kernel, by decide +kernel, tyX11_ok, nmX11, rfl, rfl, by decide +kernel⟩
theorem mpf_X11_init_34 : MPF wsX11_init RX11 34 10 19 (.array .int) := ⟨RX11, TX11, 39, tyX11, rfl, by decide, by decide +kernel, by decide +kernel, tyX11_ok, nmX11, rfl, rfl, by decide +kernel⟩
theorem mpf_X11_init_37 : MPF wsX11_init RX11 37 10 20 (.array .int) := ⟨RX11, TX11, 39, tyX11, rfl, by decide, by decide +kernel, by decide +kernel, tyX11_ok, nmX11, rfl, rfl, by decide +kernel⟩
theorem mpf_X11_init_40 : MPF wsX11_init RX11 40 10 22 (.array .int) := ⟨RX11, TX11, 39, tyX11, rfl, by decide, by decide +kernel, by decide +kernel, tyX11_ok, nmX11, rfl, rfl, by decide +kernel⟩
theorem mpf_X11_init_43 : MPF wsX11_init RX11 43 10 23 (.array .boolean) := ⟨RX11, TX11, 39, tyX11, rfl, by decide, by decide +kernel, by decide +kernel, tyX11_ok, nmX11, rfl, rfl, by decide +kernel⟩
theorem mpf_X11_init_47 : MPF wsX11_init RX11 47 10 24 (.array .int) := ⟨RX11, TX11, 39, tyX11, rfl, by decide, by decide +kernel, by decide +kernel, tyX11_ok, nmX11, rfl, rfl, by decide +kernel⟩
theorem mpf_X11_init_50 : MPF wsX11_init RX11 50 10 25 (.array .int) := ⟨RX11, TX11, 39, tyX11, rfl, by decide, by decide +kernel, by decide +kernel, tyX11_ok, nmX11, rfl, rfl, by decide +kernel⟩
theorem mpf_X11_init_53 : MPF wsX11_init RX11 53 10 26 (.array .int) := ⟨RX11, TX11, 39, tyX11, rfl, by decide, by decide +kernel, by decide +kernel, tyX11_ok, nmX11, rfl, rfl, by decide +kernel⟩
theorem mpf_X11_init_56 : MPF wsX11_init RX11 56 10 27 (.array .int) := ⟨RX11, TX11, 39, tyX11, rfl, by decide, by decide +kernel, by decide +kernel, tyX11_ok, nmX11, rfl, rfl, by decide +kernel⟩
theorem mpf_X11_init_59 : MPF wsX11_init RX11 59 10 30 (.array .int) := ⟨RX11, TX11, 39, tyX11, rfl, by decide, by decide +kernel, by decide +kernel, tyX11_ok, nmX11, rfl, rfl, by decide +kernel⟩
theorem mpf_X11_init_62 : MPF wsX11_init RX11 62 10 33 (.array .int) := ⟨RX11, TX11, 39, tyX11, rfl, by decide, by decide +kernel, by decide +kernel, tyX11_ok, nmX11, rfl, rfl, by decide +kernel⟩
theorem mpf_X11_init_65 : MPF wsX11_init RX11 65 10 34 (.array .int) := ⟨RX11, TX11, 39, tyX11, rfl, by decide, by decide +kernel, by decide +kernel, tyX11_ok, nmX11, rfl, rfl, by decide +kernel⟩
theorem mpf_X11_init_68 : MPF wsX11_init RX11 68 10 36 (.array .int) := ⟨RX11, TX11, 39, tyX11, rfl, by decide, by decide +kernel, by decide +kernel, tyX11_ok, nmX11, rfl, rfl, by decide +kernel⟩
theorem mpf_X11_init_71 : MPF wsX11_init RX11 71 10 37 (.array .int) := ⟨RX11, TX11, 39, tyX11, rfl, by decide, by decide +kernel, by decide +kernel, tyX11_ok, nmX11, rfl, rfl, by decide +kernel⟩
theorem mpf_X11_init_74 : MPF wsX11_init RX11 74 10 38 (.array .int) := ⟨RX11, TX11, 39, tyX11, rfl, by decide, by decide +kernel, by decide +kernel, tyX11_ok, nmX11, rfl, rfl, by decide +kernel⟩
abbrev rm_X11_init : Room := { frames := 1, cells := 22, slots := 642, locals := 12 }
set_option maxHeartbeats 4000000 in
set_option maxRecDepth 100000 in
theorem cc_X11_init (l : Launch) (X : GE) (P : PB) (M : MM) (hM : ∀ i, 83 < i → i < 106 → M i = fun _ => 0) (hP : ∀ i, 83 < i → i < 106 → P i = fun _ => false) : CTC l yX11_init wsX11_init rm_X11_init X [.ref (X.2.2 83)] P M 84 (sB (sB (sB (sB (sB (sB (sB (sB (sB (sB (sB (sB (sB (sB (sB (sB (sB (sB (sB (sB (sB (sB P 83 2) 83 3) 83 4) 83 9) 83 10) 83 11) 83 12) 83 13) 83 19) 83 20) 83 22) 83 23) 83 24) 83 25) 83 26) 83 27) 83 30) 83 33) 83 34) 83 36) 83 37) 83 38) (up2 (up2 (up2 (up2 M 84 (0 : Int32).toNatClampNeg (-9 : Int32)) 84 (1 : Int32).toNatClampNeg (-9 : Int32)) 84 (2 : Int32).toNatClampNeg (-9 : Int32)) 84 (3 : Int32).toNatClampNeg (-9 : Int32)) 106 22 642 := by
  refine ct_C (own := RX11) (by decide +kernel) rfl rfl rfl (Nat.le_of_ble_eq_true rfl) ?_
  intro p e s m args below meth c S hin
  refine cv_aload_n 0 S 0 0 dX11_init_0 rfl rfl ?_
  refine cv_obj 1 S (by decide +kernel) (by decide +kernel) (by decide +kernel) dX11_init_1 (Nat.le_of_ble_eq_true rfl) (Nat.le_of_ble_eq_true rfl) ?_
  refine cv_aload_n 4 S 0 0 dX11_init_4 rfl rfl ?_
  refine cv_iconst 5 S (4 : Int32) dX11_init_5 (by decide) ?_
  refine cv_newa 6 S (atype := .int) (by decide +kernel) 0 rfl (fun h => h) 4 (va_at_i X 84 4 M _ (fun _ _ => rfl) (hM 84 (by omega) (by omega))) (by decide) (by decide) (by decide) (Nat.le_of_ble_eq_true rfl) (Nat.le_of_ble_eq_true rfl) dX11_init_6 ?_
  refine cv_dup 8 S dX11_init_8 rfl ?_
  refine cv_iconst 9 S (0 : Int32) dX11_init_9 (by decide) ?_
  refine cv_bipush 10 S (-9 : Int32) dX11_init_10 (by decide) ?_
  refine cv_iast 12 S (by omega) (L := 4) (fun _ _ => rfl) (ib_in (by decide)) dX11_init_12 ?_
  refine cv_dup 13 S dX11_init_13 rfl ?_
  refine cv_iconst 14 S (1 : Int32) dX11_init_14 (by decide) ?_
  refine cv_bipush 15 S (-9 : Int32) dX11_init_15 (by decide) ?_
  refine cv_iast 17 S (by omega) (L := 4) (fun _ _ => rfl) (ib_in (by decide)) dX11_init_17 ?_
  refine cv_dup 18 S dX11_init_18 rfl ?_
  refine cv_iconst 19 S (2 : Int32) dX11_init_19 (by decide) ?_
  refine cv_bipush 20 S (-9 : Int32) dX11_init_20 (by decide) ?_
  refine cv_iast 22 S (by omega) (L := 4) (fun _ _ => rfl) (ib_in (by decide)) dX11_init_22 ?_
  refine cv_dup 23 S dX11_init_23 rfl ?_
  refine cv_iconst 24 S (3 : Int32) dX11_init_24 (by decide) ?_
  refine cv_bipush 25 S (-9 : Int32) dX11_init_25 (by decide) ?_
  refine cv_iast 27 S (by omega) (L := 4) (fun _ _ => rfl) (ib_in (by decide)) dX11_init_27 ?_
  refine cv_putF 28 S hin (by omega) (hSP_83_2 X) mpf_X11_init_9 rfl rfl dX11_init_28 ?_
  refine cv_aload_n 31 S 0 0 dX11_init_31 rfl rfl ?_
  refine cv_iconst 32 S (4 : Int32) dX11_init_32 (by decide) ?_
  refine cv_newa 33 S (atype := .int) (by decide +kernel) 0 rfl (fun h => h) 4 (va_at_i X 85 4 (up2 (up2 (up2 (up2 M 84 (0 : Int32).toNatClampNeg (-9 : Int32)) 84 (1 : Int32).toNatClampNeg (-9 : Int32)) 84 (2 : Int32).toNatClampNeg (-9 : Int32)) 84 (3 : Int32).toNatClampNeg (-9 : Int32)) _ (fun _ _ => rfl) (hM 85 (by omega) (by omega))) (by decide) (by decide) (by decide) (Nat.le_of_ble_eq_true rfl) (Nat.le_of_ble_eq_true rfl) dX11_init_33 ?_
  refine cv_putF 35 S hin (by omega) (hSP_83_3 X) mpf_X11_init_13 rfl rfl dX11_init_35 ?_
  refine cv_aload_n 38 S 0 0 dX11_init_38 rfl rfl ?_
  refine cv_sipush 39 S (240 : Int32) dX11_init_39 (by decide) ?_
  refine cv_newa 42 S (atype := .int) (by decide +kernel) 0 rfl (fun h => h) 240 (va_at_i X 86 240 (up2 (up2 (up2 (up2 M 84 (0 : Int32).toNatClampNeg (-9 : Int32)) 84 (1 : Int32).toNatClampNeg (-9 : Int32)) 84 (2 : Int32).toNatClampNeg (-9 : Int32)) 84 (3 : Int32).toNatClampNeg (-9 : Int32)) _ (fun _ _ => rfl) (hM 86 (by omega) (by omega))) (by decide) (by decide) (by decide) (Nat.le_of_ble_eq_true rfl) (Nat.le_of_ble_eq_true rfl) dX11_init_42 ?_
  refine cv_putF 44 S hin (by omega) (hSP_83_4 X) mpf_X11_init_16 rfl rfl dX11_init_44 ?_
  refine cv_aload_n 47 S 0 0 dX11_init_47 rfl rfl ?_
  refine cv_bipush 48 S (8 : Int32) dX11_init_48 (by decide) ?_
  refine cv_newa 50 S (atype := .int) (by decide +kernel) 0 rfl (fun h => h) 8 (va_at_i X 87 8 (up2 (up2 (up2 (up2 M 84 (0 : Int32).toNatClampNeg (-9 : Int32)) 84 (1 : Int32).toNatClampNeg (-9 : Int32)) 84 (2 : Int32).toNatClampNeg (-9 : Int32)) 84 (3 : Int32).toNatClampNeg (-9 : Int32)) _ (fun _ _ => rfl) (hM 87 (by omega) (by omega))) (by decide) (by decide) (by decide) (Nat.le_of_ble_eq_true rfl) (Nat.le_of_ble_eq_true rfl) dX11_init_50 ?_
  refine cv_putF 52 S hin (by omega) (hSP_83_9 X) mpf_X11_init_19 rfl rfl dX11_init_52 ?_
  refine cv_aload_n 55 S 0 0 dX11_init_55 rfl rfl ?_
  refine cv_bipush 56 S (8 : Int32) dX11_init_56 (by decide) ?_
  refine cv_newa 58 S (atype := .int) (by decide +kernel) 0 rfl (fun h => h) 8 (va_at_i X 88 8 (up2 (up2 (up2 (up2 M 84 (0 : Int32).toNatClampNeg (-9 : Int32)) 84 (1 : Int32).toNatClampNeg (-9 : Int32)) 84 (2 : Int32).toNatClampNeg (-9 : Int32)) 84 (3 : Int32).toNatClampNeg (-9 : Int32)) _ (fun _ _ => rfl) (hM 88 (by omega) (by omega))) (by decide) (by decide) (by decide) (Nat.le_of_ble_eq_true rfl) (Nat.le_of_ble_eq_true rfl) dX11_init_58 ?_
  refine cv_putF 60 S hin (by omega) (hSP_83_10 X) mpf_X11_init_22 rfl rfl dX11_init_60 ?_
  refine cv_aload_n 63 S 0 0 dX11_init_63 rfl rfl ?_
  refine cv_bipush 64 S (8 : Int32) dX11_init_64 (by decide) ?_
  refine cv_newa 66 S (atype := .int) (by decide +kernel) 0 rfl (fun h => h) 8 (va_at_i X 89 8 (up2 (up2 (up2 (up2 M 84 (0 : Int32).toNatClampNeg (-9 : Int32)) 84 (1 : Int32).toNatClampNeg (-9 : Int32)) 84 (2 : Int32).toNatClampNeg (-9 : Int32)) 84 (3 : Int32).toNatClampNeg (-9 : Int32)) _ (fun _ _ => rfl) (hM 89 (by omega) (by omega))) (by decide) (by decide) (by decide) (Nat.le_of_ble_eq_true rfl) (Nat.le_of_ble_eq_true rfl) dX11_init_66 ?_
  refine cv_putF 68 S hin (by omega) (hSP_83_11 X) mpf_X11_init_25 rfl rfl dX11_init_68 ?_
  refine cv_aload_n 71 S 0 0 dX11_init_71 rfl rfl ?_
  refine cv_bipush 72 S (8 : Int32) dX11_init_72 (by decide) ?_
  refine cv_newa 74 S (atype := .int) (by decide +kernel) 0 rfl (fun h => h) 8 (va_at_i X 90 8 (up2 (up2 (up2 (up2 M 84 (0 : Int32).toNatClampNeg (-9 : Int32)) 84 (1 : Int32).toNatClampNeg (-9 : Int32)) 84 (2 : Int32).toNatClampNeg (-9 : Int32)) 84 (3 : Int32).toNatClampNeg (-9 : Int32)) _ (fun _ _ => rfl) (hM 90 (by omega) (by omega))) (by decide) (by decide) (by decide) (Nat.le_of_ble_eq_true rfl) (Nat.le_of_ble_eq_true rfl) dX11_init_74 ?_
  refine cv_putF 76 S hin (by omega) (hSP_83_12 X) mpf_X11_init_28 rfl rfl dX11_init_76 ?_
  refine cv_aload_n 79 S 0 0 dX11_init_79 rfl rfl ?_
  refine cv_bipush 80 S (8 : Int32) dX11_init_80 (by decide) ?_
  refine cv_newa 82 S (atype := .int) (by decide +kernel) 0 rfl (fun h => h) 8 (va_at_i X 91 8 (up2 (up2 (up2 (up2 M 84 (0 : Int32).toNatClampNeg (-9 : Int32)) 84 (1 : Int32).toNatClampNeg (-9 : Int32)) 84 (2 : Int32).toNatClampNeg (-9 : Int32)) 84 (3 : Int32).toNatClampNeg (-9 : Int32)) _ (fun _ _ => rfl) (hM 91 (by omega) (by omega))) (by decide) (by decide) (by decide) (Nat.le_of_ble_eq_true rfl) (Nat.le_of_ble_eq_true rfl) dX11_init_82 ?_
  refine cv_putF 84 S hin (by omega) (hSP_83_13 X) mpf_X11_init_31 rfl rfl dX11_init_84 ?_
  refine cv_aload_n 87 S 0 0 dX11_init_87 rfl rfl ?_
  refine cv_bipush 88 S (40 : Int32) dX11_init_88 (by decide) ?_
  refine cv_newa 90 S (atype := .int) (by decide +kernel) 0 rfl (fun h => h) 40 (va_at_i X 92 40 (up2 (up2 (up2 (up2 M 84 (0 : Int32).toNatClampNeg (-9 : Int32)) 84 (1 : Int32).toNatClampNeg (-9 : Int32)) 84 (2 : Int32).toNatClampNeg (-9 : Int32)) 84 (3 : Int32).toNatClampNeg (-9 : Int32)) _ (fun _ _ => rfl) (hM 92 (by omega) (by omega))) (by decide) (by decide) (by decide) (Nat.le_of_ble_eq_true rfl) (Nat.le_of_ble_eq_true rfl) dX11_init_90 ?_
  refine cv_putF 92 S hin (by omega) (hSP_83_19 X) mpf_X11_init_34 rfl rfl dX11_init_92 ?_
  refine cv_aload_n 95 S 0 0 dX11_init_95 rfl rfl ?_
  refine cv_bipush 96 S (8 : Int32) dX11_init_96 (by decide) ?_
  refine cv_newa 98 S (atype := .int) (by decide +kernel) 0 rfl (fun h => h) 8 (va_at_i X 93 8 (up2 (up2 (up2 (up2 M 84 (0 : Int32).toNatClampNeg (-9 : Int32)) 84 (1 : Int32).toNatClampNeg (-9 : Int32)) 84 (2 : Int32).toNatClampNeg (-9 : Int32)) 84 (3 : Int32).toNatClampNeg (-9 : Int32)) _ (fun _ _ => rfl) (hM 93 (by omega) (by omega))) (by decide) (by decide) (by decide) (Nat.le_of_ble_eq_true rfl) (Nat.le_of_ble_eq_true rfl) dX11_init_98 ?_
  refine cv_putF 100 S hin (by omega) (hSP_83_20 X) mpf_X11_init_37 rfl rfl dX11_init_100 ?_
  refine cv_aload_n 103 S 0 0 dX11_init_103 rfl rfl ?_
  refine cv_sipush 104 S (200 : Int32) dX11_init_104 (by decide) ?_
  refine cv_newa 107 S (atype := .int) (by decide +kernel) 0 rfl (fun h => h) 200 (va_at_i X 94 200 (up2 (up2 (up2 (up2 M 84 (0 : Int32).toNatClampNeg (-9 : Int32)) 84 (1 : Int32).toNatClampNeg (-9 : Int32)) 84 (2 : Int32).toNatClampNeg (-9 : Int32)) 84 (3 : Int32).toNatClampNeg (-9 : Int32)) _ (fun _ _ => rfl) (hM 94 (by omega) (by omega))) (by decide) (by decide) (by decide) (Nat.le_of_ble_eq_true rfl) (Nat.le_of_ble_eq_true rfl) dX11_init_107 ?_
  refine cv_putF 109 S hin (by omega) (hSP_83_22 X) mpf_X11_init_40 rfl rfl dX11_init_109 ?_
  refine cv_aload_n 112 S 0 0 dX11_init_112 rfl rfl ?_
  refine cv_iconst 113 S (2 : Int32) dX11_init_113 (by decide) ?_
  refine cv_newa 114 S (atype := .boolean) (by decide +kernel) 1 rfl (fun h => h) 2 (va_at_z X 95 2 (up2 (up2 (up2 (up2 M 84 (0 : Int32).toNatClampNeg (-9 : Int32)) 84 (1 : Int32).toNatClampNeg (-9 : Int32)) 84 (2 : Int32).toNatClampNeg (-9 : Int32)) 84 (3 : Int32).toNatClampNeg (-9 : Int32)) _ (fun _ _ => rfl) (hM 95 (by omega) (by omega))) (by decide) (by decide) (by decide) (Nat.le_of_ble_eq_true rfl) (Nat.le_of_ble_eq_true rfl) dX11_init_114 ?_
  refine cv_putF 116 S hin (by omega) (hSP_83_23 X) mpf_X11_init_43 rfl rfl dX11_init_116 ?_
  refine cv_aload_n 119 S 0 0 dX11_init_119 rfl rfl ?_
  refine cv_bipush 120 S (50 : Int32) dX11_init_120 (by decide) ?_
  refine cv_newa 122 S (atype := .int) (by decide +kernel) 0 rfl (fun h => h) 50 (va_at_i X 96 50 (up2 (up2 (up2 (up2 M 84 (0 : Int32).toNatClampNeg (-9 : Int32)) 84 (1 : Int32).toNatClampNeg (-9 : Int32)) 84 (2 : Int32).toNatClampNeg (-9 : Int32)) 84 (3 : Int32).toNatClampNeg (-9 : Int32)) _ (fun _ _ => rfl) (hM 96 (by omega) (by omega))) (by decide) (by decide) (by decide) (Nat.le_of_ble_eq_true rfl) (Nat.le_of_ble_eq_true rfl) dX11_init_122 ?_
  refine cv_putF 124 S hin (by omega) (hSP_83_24 X) mpf_X11_init_47 rfl rfl dX11_init_124 ?_
  refine cv_aload_n 127 S 0 0 dX11_init_127 rfl rfl ?_
  refine cv_iconst 128 S (2 : Int32) dX11_init_128 (by decide) ?_
  refine cv_newa 129 S (atype := .int) (by decide +kernel) 0 rfl (fun h => h) 2 (va_at_i X 97 2 (up2 (up2 (up2 (up2 M 84 (0 : Int32).toNatClampNeg (-9 : Int32)) 84 (1 : Int32).toNatClampNeg (-9 : Int32)) 84 (2 : Int32).toNatClampNeg (-9 : Int32)) 84 (3 : Int32).toNatClampNeg (-9 : Int32)) _ (fun _ _ => rfl) (hM 97 (by omega) (by omega))) (by decide) (by decide) (by decide) (Nat.le_of_ble_eq_true rfl) (Nat.le_of_ble_eq_true rfl) dX11_init_129 ?_
  refine cv_putF 131 S hin (by omega) (hSP_83_25 X) mpf_X11_init_50 rfl rfl dX11_init_131 ?_
  refine cv_aload_n 134 S 0 0 dX11_init_134 rfl rfl ?_
  refine cv_iconst 135 S (2 : Int32) dX11_init_135 (by decide) ?_
  refine cv_newa 136 S (atype := .int) (by decide +kernel) 0 rfl (fun h => h) 2 (va_at_i X 98 2 (up2 (up2 (up2 (up2 M 84 (0 : Int32).toNatClampNeg (-9 : Int32)) 84 (1 : Int32).toNatClampNeg (-9 : Int32)) 84 (2 : Int32).toNatClampNeg (-9 : Int32)) 84 (3 : Int32).toNatClampNeg (-9 : Int32)) _ (fun _ _ => rfl) (hM 98 (by omega) (by omega))) (by decide) (by decide) (by decide) (Nat.le_of_ble_eq_true rfl) (Nat.le_of_ble_eq_true rfl) dX11_init_136 ?_
  refine cv_putF 138 S hin (by omega) (hSP_83_26 X) mpf_X11_init_53 rfl rfl dX11_init_138 ?_
  refine cv_aload_n 141 S 0 0 dX11_init_141 rfl rfl ?_
  refine cv_bipush 142 S (8 : Int32) dX11_init_142 (by decide) ?_
  refine cv_newa 144 S (atype := .int) (by decide +kernel) 0 rfl (fun h => h) 8 (va_at_i X 99 8 (up2 (up2 (up2 (up2 M 84 (0 : Int32).toNatClampNeg (-9 : Int32)) 84 (1 : Int32).toNatClampNeg (-9 : Int32)) 84 (2 : Int32).toNatClampNeg (-9 : Int32)) 84 (3 : Int32).toNatClampNeg (-9 : Int32)) _ (fun _ _ => rfl) (hM 99 (by omega) (by omega))) (by decide) (by decide) (by decide) (Nat.le_of_ble_eq_true rfl) (Nat.le_of_ble_eq_true rfl) dX11_init_144 ?_
  refine cv_putF 146 S hin (by omega) (hSP_83_27 X) mpf_X11_init_56 rfl rfl dX11_init_146 ?_
  refine cv_aload_n 149 S 0 0 dX11_init_149 rfl rfl ?_
  refine cv_bipush 150 S (8 : Int32) dX11_init_150 (by decide) ?_
  refine cv_newa 152 S (atype := .int) (by decide +kernel) 0 rfl (fun h => h) 8 (va_at_i X 100 8 (up2 (up2 (up2 (up2 M 84 (0 : Int32).toNatClampNeg (-9 : Int32)) 84 (1 : Int32).toNatClampNeg (-9 : Int32)) 84 (2 : Int32).toNatClampNeg (-9 : Int32)) 84 (3 : Int32).toNatClampNeg (-9 : Int32)) _ (fun _ _ => rfl) (hM 100 (by omega) (by omega))) (by decide) (by decide) (by decide) (Nat.le_of_ble_eq_true rfl) (Nat.le_of_ble_eq_true rfl) dX11_init_152 ?_
  refine cv_putF 154 S hin (by omega) (hSP_83_30 X) mpf_X11_init_59 rfl rfl dX11_init_154 ?_
  refine cv_aload_n 157 S 0 0 dX11_init_157 rfl rfl ?_
  refine cv_iconst 158 S (5 : Int32) dX11_init_158 (by decide) ?_
  refine cv_newa 159 S (atype := .int) (by decide +kernel) 0 rfl (fun h => h) 5 (va_at_i X 101 5 (up2 (up2 (up2 (up2 M 84 (0 : Int32).toNatClampNeg (-9 : Int32)) 84 (1 : Int32).toNatClampNeg (-9 : Int32)) 84 (2 : Int32).toNatClampNeg (-9 : Int32)) 84 (3 : Int32).toNatClampNeg (-9 : Int32)) _ (fun _ _ => rfl) (hM 101 (by omega) (by omega))) (by decide) (by decide) (by decide) (Nat.le_of_ble_eq_true rfl) (Nat.le_of_ble_eq_true rfl) dX11_init_159 ?_
  refine cv_putF 161 S hin (by omega) (hSP_83_33 X) mpf_X11_init_62 rfl rfl dX11_init_161 ?_
  refine cv_aload_n 164 S 0 0 dX11_init_164 rfl rfl ?_
  refine cv_iconst 165 S (5 : Int32) dX11_init_165 (by decide) ?_
  refine cv_newa 166 S (atype := .int) (by decide +kernel) 0 rfl (fun h => h) 5 (va_at_i X 102 5 (up2 (up2 (up2 (up2 M 84 (0 : Int32).toNatClampNeg (-9 : Int32)) 84 (1 : Int32).toNatClampNeg (-9 : Int32)) 84 (2 : Int32).toNatClampNeg (-9 : Int32)) 84 (3 : Int32).toNatClampNeg (-9 : Int32)) _ (fun _ _ => rfl) (hM 102 (by omega) (by omega))) (by decide) (by decide) (by decide) (Nat.le_of_ble_eq_true rfl) (Nat.le_of_ble_eq_true rfl) dX11_init_166 ?_
  refine cv_putF 168 S hin (by omega) (hSP_83_34 X) mpf_X11_init_65 rfl rfl dX11_init_168 ?_
  refine cv_aload_n 171 S 0 0 dX11_init_171 rfl rfl ?_
  refine cv_bipush 172 S (8 : Int32) dX11_init_172 (by decide) ?_
  refine cv_newa 174 S (atype := .int) (by decide +kernel) 0 rfl (fun h => h) 8 (va_at_i X 103 8 (up2 (up2 (up2 (up2 M 84 (0 : Int32).toNatClampNeg (-9 : Int32)) 84 (1 : Int32).toNatClampNeg (-9 : Int32)) 84 (2 : Int32).toNatClampNeg (-9 : Int32)) 84 (3 : Int32).toNatClampNeg (-9 : Int32)) _ (fun _ _ => rfl) (hM 103 (by omega) (by omega))) (by decide) (by decide) (by decide) (Nat.le_of_ble_eq_true rfl) (Nat.le_of_ble_eq_true rfl) dX11_init_174 ?_
  refine cv_putF 176 S hin (by omega) (hSP_83_36 X) mpf_X11_init_68 rfl rfl dX11_init_176 ?_
  refine cv_aload_n 179 S 0 0 dX11_init_179 rfl rfl ?_
  refine cv_bipush 180 S (8 : Int32) dX11_init_180 (by decide) ?_
  refine cv_newa 182 S (atype := .int) (by decide +kernel) 0 rfl (fun h => h) 8 (va_at_i X 104 8 (up2 (up2 (up2 (up2 M 84 (0 : Int32).toNatClampNeg (-9 : Int32)) 84 (1 : Int32).toNatClampNeg (-9 : Int32)) 84 (2 : Int32).toNatClampNeg (-9 : Int32)) 84 (3 : Int32).toNatClampNeg (-9 : Int32)) _ (fun _ _ => rfl) (hM 104 (by omega) (by omega))) (by decide) (by decide) (by decide) (Nat.le_of_ble_eq_true rfl) (Nat.le_of_ble_eq_true rfl) dX11_init_182 ?_
  refine cv_putF 184 S hin (by omega) (hSP_83_37 X) mpf_X11_init_71 rfl rfl dX11_init_184 ?_
  refine cv_aload_n 187 S 0 0 dX11_init_187 rfl rfl ?_
  refine cv_bipush 188 S (8 : Int32) dX11_init_188 (by decide) ?_
  refine cv_newa 190 S (atype := .int) (by decide +kernel) 0 rfl (fun h => h) 8 (va_at_i X 105 8 (up2 (up2 (up2 (up2 M 84 (0 : Int32).toNatClampNeg (-9 : Int32)) 84 (1 : Int32).toNatClampNeg (-9 : Int32)) 84 (2 : Int32).toNatClampNeg (-9 : Int32)) 84 (3 : Int32).toNatClampNeg (-9 : Int32)) _ (fun _ _ => rfl) (hM 105 (by omega) (by omega))) (by decide) (by decide) (by decide) (Nat.le_of_ble_eq_true rfl) (Nat.le_of_ble_eq_true rfl) dX11_init_190 ?_
  refine cv_putF 192 S hin (by omega) (hSP_83_38 X) mpf_X11_init_74 rfl rfl dX11_init_192 ?_
  exact cv_ret 195 S dX11_init_195
