def rsL : List (List Nat) := [[0, 1, 2, 3, 4, 5, 6, 7, 8, 9], [0, 1, 2, 3], [0], [], [0], [], [0], [], [0], [], [0, 1], [0, 1, 2], [], [], [], [0, 1, 2], [], [], [], [], [0, 1, 2], [], [], [0, 1, 2], [], [], [], [0], [0, 1, 2, 3, 4, 5, 6, 7], [0, 1, 2], [], [], [], [0, 1, 2], [], [], [], [0, 1, 2], [], [], [], [0, 1, 2], [], [], [], [0, 1, 2], [], [], [], [0, 1, 2], [], [], [], [0, 1, 2], [], [], [], [0, 1, 2], [], [], [], [0, 1, 2], [], [], [], [0, 1], [], [], [0, 1], [], [], [0, 1, 2, 3], [], [], [], [], [0, 1, 2, 3, 4, 5], [], [], [], [], [], [], [2, 3, 4, 9, 10, 11, 12, 13, 19, 20, 22, 23, 24, 25, 26, 27, 30, 33, 34, 36, 37, 38], [], [], [], [], [], [], [], [], [], [], [], [], [], [], [], [], [], [], [], [], [], []]
def allB (P : PB) : Bool := (List.range 106).all (fun k => (rsL.getD k []).all (fun j => P k j))
theorem allB_at {P : PB} (h : allB P = true) {k j : Nat} (hk : k < 106) (hj : j ∈ rsL.getD k []) : P k j = true := by
  have h1 := List.all_eq_true.mp h k (List.mem_range.mpr hk)
  exact List.all_eq_true.mp h1 j hj
theorem arrV_cong {cA : ClassId} {N : Nat} {f g : Nat → Value} (h : ∀ j, j < N → f j = g j) : arrV cA N f = arrV cA N g := by
  unfold arrV
  congr 2
  funext j
  exact h j.val j.isLt
theorem cv_astore_n {p : Program} {l : Launch} {e : Env} {R : Room} {s : State} {m : MethodId} {args : Array Value} {below : List Frame} {meth : Method} {c : Code} {Q : State → Prop} {cc : ByteArray} {nL : Nat} {Ts : List Cond} {own : String} {ret : Option FieldType} {X : GE} {P : PB} {M : MM} {lv : List (Nat × Value)} {st : List Value} {n cs sl : Nat} (pc : Nat) (S : CXC p s m args meth c cc nL Ts own ret X) {k4 : Fin 4} (i : Nat) {x : Nat} {lv' : List (Nat × Value)} (hdg : decode cc pc = .ok (.astore_n k4, 1)) (hi : (k4 : Nat) = i) (hn : i < nL) (hs : (i, Value.ref x) :: lv.filter (fun q => !(q.1 == i) && !(q.1 + 1 == i && q.2.category == 2)) = lv') (kk : CV p l e R s m args below meth c nL X Q cs sl P M n (pc + 1) lv' st) : CV p l e R s m args below meth c nL X Q cs sl P M n pc lv (.ref x :: st) := fun H locs ls hG hS hl => lv_astore_n S.1.1 S.1.2.1 hdg hi hl hn hs (fun ls' hl' => kk H locs ls' hG hS hl')
def cvt (P : PB) (X : GE) (M : MM) (H : Heap) (k : Nat) : Prop := va_at X.1 vwCl (X.2.2 k, gcP X k (P k) (M k)) H → va_at X.1 vwCl (X.2.2 k, gc X k (M k)) H
theorem cvt_0 (P : PB) (X : GE) (M : MM) (H : Heap) (h : allB P = true) : cvt P X M H 0 := by
  intro q
  have e : gcP X 0 (P 0) (M 0) = gc X 0 (M 0) := by
    show Sum.inr (9, [rfB (P 0 0) (X.2.2 1), rfB (P 0 1) (X.2.2 20), rfB (P 0 2) (X.2.2 27), rfB (P 0 3) (X.2.2 10), rfB (P 0 4) (X.2.2 19), rfB (P 0 5) (X.2.2 61), rfB (P 0 6) (X.2.2 65), rfB (P 0 7) (X.2.2 68), rfB (P 0 8) (X.2.2 71), rfB (P 0 9) (X.2.2 76), .int (M 0 10), .int (M 0 11)]) = _
    rw [allB_at h (k := 0) (j := 0) (by decide) (by decide), allB_at h (k := 0) (j := 1) (by decide) (by decide), allB_at h (k := 0) (j := 2) (by decide) (by decide), allB_at h (k := 0) (j := 3) (by decide) (by decide), allB_at h (k := 0) (j := 4) (by decide) (by decide), allB_at h (k := 0) (j := 5) (by decide) (by decide), allB_at h (k := 0) (j := 6) (by decide) (by decide), allB_at h (k := 0) (j := 7) (by decide) (by decide), allB_at h (k := 0) (j := 8) (by decide) (by decide), allB_at h (k := 0) (j := 9) (by decide) (by decide)]
    rfl
  rw [← e]
  exact q
theorem cvt_1 (P : PB) (X : GE) (M : MM) (H : Heap) (h : allB P = true) : cvt P X M H 1 := by
  intro q
  have q : H[X.2.2 1]? = some (arrV (X.2.1 2) 4 (fun j => va_rf (ofB (P 1 j) (X.2.2 ((fun i => 2 + 2 * i) j))))) := q
  show H[X.2.2 1]? = some (arrV (X.2.1 2) 4 (fun j => va_rf (some (X.2.2 ((fun i => 2 + 2 * i) j)))))
  rw [q, arrV_cong (fun j hj => ?_)]
  have hm : j ∈ rsL.getD 1 [] := List.mem_range.mpr hj
  rw [allB_at h (by decide) hm]
  rfl
theorem cvt_2 (P : PB) (X : GE) (M : MM) (H : Heap) (h : allB P = true) : cvt P X M H 2 := by
  intro q
  have e : gcP X 2 (P 2) (M 2) = gc X 2 (M 2) := by
    show Sum.inr (7, [rfB (P 2 0) (X.2.2 3), .int (M 2 1), .int (M 2 2), .int (M 2 3)]) = _
    rw [allB_at h (k := 2) (j := 0) (by decide) (by decide)]
    rfl
  rw [← e]
  exact q
theorem cvt_3 (P : PB) (X : GE) (M : MM) (H : Heap) (h : allB P = true) : cvt P X M H 3 := fun q => q
theorem cvt_4 (P : PB) (X : GE) (M : MM) (H : Heap) (h : allB P = true) : cvt P X M H 4 := by
  intro q
  have e : gcP X 4 (P 4) (M 4) = gc X 4 (M 4) := by
    show Sum.inr (7, [rfB (P 4 0) (X.2.2 5), .int (M 4 1), .int (M 4 2), .int (M 4 3)]) = _
    rw [allB_at h (k := 4) (j := 0) (by decide) (by decide)]
    rfl
  rw [← e]
  exact q
theorem cvt_5 (P : PB) (X : GE) (M : MM) (H : Heap) (h : allB P = true) : cvt P X M H 5 := fun q => q
theorem cvt_6 (P : PB) (X : GE) (M : MM) (H : Heap) (h : allB P = true) : cvt P X M H 6 := by
  intro q
  have e : gcP X 6 (P 6) (M 6) = gc X 6 (M 6) := by
    show Sum.inr (7, [rfB (P 6 0) (X.2.2 7), .int (M 6 1), .int (M 6 2), .int (M 6 3)]) = _
    rw [allB_at h (k := 6) (j := 0) (by decide) (by decide)]
    rfl
  rw [← e]
  exact q
theorem cvt_7 (P : PB) (X : GE) (M : MM) (H : Heap) (h : allB P = true) : cvt P X M H 7 := fun q => q
theorem cvt_8 (P : PB) (X : GE) (M : MM) (H : Heap) (h : allB P = true) : cvt P X M H 8 := by
  intro q
  have e : gcP X 8 (P 8) (M 8) = gc X 8 (M 8) := by
    show Sum.inr (7, [rfB (P 8 0) (X.2.2 9), .int (M 8 1), .int (M 8 2), .int (M 8 3)]) = _
    rw [allB_at h (k := 8) (j := 0) (by decide) (by decide)]
    rfl
  rw [← e]
  exact q
theorem cvt_9 (P : PB) (X : GE) (M : MM) (H : Heap) (h : allB P = true) : cvt P X M H 9 := fun q => q
theorem cvt_10 (P : PB) (X : GE) (M : MM) (H : Heap) (h : allB P = true) : cvt P X M H 10 := by
  intro q
  have q : H[X.2.2 10]? = some (arrV (X.2.1 3) 2 (fun j => va_rf (ofB (P 10 j) (X.2.2 ((fun i => 11 + 4 * i) j))))) := q
  show H[X.2.2 10]? = some (arrV (X.2.1 3) 2 (fun j => va_rf (some (X.2.2 ((fun i => 11 + 4 * i) j)))))
  rw [q, arrV_cong (fun j hj => ?_)]
  have hm : j ∈ rsL.getD 10 [] := List.mem_range.mpr hj
  rw [allB_at h (by decide) hm]
  rfl
theorem cvt_11 (P : PB) (X : GE) (M : MM) (H : Heap) (h : allB P = true) : cvt P X M H 11 := by
  intro q
  have e : gcP X 11 (P 11) (M 11) = gc X 11 (M 11) := by
    show Sum.inr (6, [rfB (P 11 0) (X.2.2 12), rfB (P 11 1) (X.2.2 13), rfB (P 11 2) (X.2.2 14), .int (M 11 3), .int (M 11 4), .int (M 11 5)]) = _
    rw [allB_at h (k := 11) (j := 0) (by decide) (by decide), allB_at h (k := 11) (j := 1) (by decide) (by decide), allB_at h (k := 11) (j := 2) (by decide) (by decide)]
    rfl
  rw [← e]
  exact q
theorem cvt_12 (P : PB) (X : GE) (M : MM) (H : Heap) (h : allB P = true) : cvt P X M H 12 := fun q => q
theorem cvt_13 (P : PB) (X : GE) (M : MM) (H : Heap) (h : allB P = true) : cvt P X M H 13 := fun q => q
theorem cvt_14 (P : PB) (X : GE) (M : MM) (H : Heap) (h : allB P = true) : cvt P X M H 14 := fun q => q
theorem cvt_15 (P : PB) (X : GE) (M : MM) (H : Heap) (h : allB P = true) : cvt P X M H 15 := by
  intro q
  have e : gcP X 15 (P 15) (M 15) = gc X 15 (M 15) := by
    show Sum.inr (6, [rfB (P 15 0) (X.2.2 16), rfB (P 15 1) (X.2.2 17), rfB (P 15 2) (X.2.2 18), .int (M 15 3), .int (M 15 4), .int (M 15 5)]) = _
    rw [allB_at h (k := 15) (j := 0) (by decide) (by decide), allB_at h (k := 15) (j := 1) (by decide) (by decide), allB_at h (k := 15) (j := 2) (by decide) (by decide)]
    rfl
  rw [← e]
  exact q
theorem cvt_16 (P : PB) (X : GE) (M : MM) (H : Heap) (h : allB P = true) : cvt P X M H 16 := fun q => q
theorem cvt_17 (P : PB) (X : GE) (M : MM) (H : Heap) (h : allB P = true) : cvt P X M H 17 := fun q => q
theorem cvt_18 (P : PB) (X : GE) (M : MM) (H : Heap) (h : allB P = true) : cvt P X M H 18 := fun q => q
theorem cvt_19 (P : PB) (X : GE) (M : MM) (H : Heap) (h : allB P = true) : cvt P X M H 19 := fun q => q
theorem cvt_20 (P : PB) (X : GE) (M : MM) (H : Heap) (h : allB P = true) : cvt P X M H 20 := by
  intro q
  have e : gcP X 20 (P 20) (M 20) = gc X 20 (M 20) := by
    show Sum.inr (1, [rfB (P 20 0) (X.2.2 21), rfB (P 20 1) (X.2.2 22), rfB (P 20 2) (X.2.2 23), .int (M 20 3)]) = _
    rw [allB_at h (k := 20) (j := 0) (by decide) (by decide), allB_at h (k := 20) (j := 1) (by decide) (by decide), allB_at h (k := 20) (j := 2) (by decide) (by decide)]
    rfl
  rw [← e]
  exact q
theorem cvt_21 (P : PB) (X : GE) (M : MM) (H : Heap) (h : allB P = true) : cvt P X M H 21 := fun q => q
theorem cvt_22 (P : PB) (X : GE) (M : MM) (H : Heap) (h : allB P = true) : cvt P X M H 22 := fun q => q
theorem cvt_23 (P : PB) (X : GE) (M : MM) (H : Heap) (h : allB P = true) : cvt P X M H 23 := by
  intro q
  have e : gcP X 23 (P 23) (M 23) = gc X 23 (M 23) := by
    show Sum.inr (6, [rfB (P 23 0) (X.2.2 24), rfB (P 23 1) (X.2.2 25), rfB (P 23 2) (X.2.2 26), .int (M 23 3), .int (M 23 4), .int (M 23 5)]) = _
    rw [allB_at h (k := 23) (j := 0) (by decide) (by decide), allB_at h (k := 23) (j := 1) (by decide) (by decide), allB_at h (k := 23) (j := 2) (by decide) (by decide)]
    rfl
  rw [← e]
  exact q
theorem cvt_24 (P : PB) (X : GE) (M : MM) (H : Heap) (h : allB P = true) : cvt P X M H 24 := fun q => q
theorem cvt_25 (P : PB) (X : GE) (M : MM) (H : Heap) (h : allB P = true) : cvt P X M H 25 := fun q => q
theorem cvt_26 (P : PB) (X : GE) (M : MM) (H : Heap) (h : allB P = true) : cvt P X M H 26 := fun q => q
theorem cvt_27 (P : PB) (X : GE) (M : MM) (H : Heap) (h : allB P = true) : cvt P X M H 27 := by
  intro q
  have e : gcP X 27 (P 27) (M 27) = gc X 27 (M 27) := by
    show Sum.inr (3, [rfB (P 27 0) (X.2.2 28), .int (M 27 1), .int (M 27 2)]) = _
    rw [allB_at h (k := 27) (j := 0) (by decide) (by decide)]
    rfl
  rw [← e]
  exact q
theorem cvt_28 (P : PB) (X : GE) (M : MM) (H : Heap) (h : allB P = true) : cvt P X M H 28 := by
  intro q
  have q : H[X.2.2 28]? = some (arrV (X.2.1 3) 8 (fun j => va_rf (ofB (P 28 j) (X.2.2 ((fun i => 29 + 4 * i) j))))) := q
  show H[X.2.2 28]? = some (arrV (X.2.1 3) 8 (fun j => va_rf (some (X.2.2 ((fun i => 29 + 4 * i) j)))))
  rw [q, arrV_cong (fun j hj => ?_)]
  have hm : j ∈ rsL.getD 28 [] := List.mem_range.mpr hj
  rw [allB_at h (by decide) hm]
  rfl
theorem cvt_29 (P : PB) (X : GE) (M : MM) (H : Heap) (h : allB P = true) : cvt P X M H 29 := by
  intro q
  have e : gcP X 29 (P 29) (M 29) = gc X 29 (M 29) := by
    show Sum.inr (6, [rfB (P 29 0) (X.2.2 30), rfB (P 29 1) (X.2.2 31), rfB (P 29 2) (X.2.2 32), .int (M 29 3), .int (M 29 4), .int (M 29 5)]) = _
    rw [allB_at h (k := 29) (j := 0) (by decide) (by decide), allB_at h (k := 29) (j := 1) (by decide) (by decide), allB_at h (k := 29) (j := 2) (by decide) (by decide)]
    rfl
  rw [← e]
  exact q
theorem cvt_30 (P : PB) (X : GE) (M : MM) (H : Heap) (h : allB P = true) : cvt P X M H 30 := fun q => q
theorem cvt_31 (P : PB) (X : GE) (M : MM) (H : Heap) (h : allB P = true) : cvt P X M H 31 := fun q => q
theorem cvt_32 (P : PB) (X : GE) (M : MM) (H : Heap) (h : allB P = true) : cvt P X M H 32 := fun q => q
theorem cvt_33 (P : PB) (X : GE) (M : MM) (H : Heap) (h : allB P = true) : cvt P X M H 33 := by
  intro q
  have e : gcP X 33 (P 33) (M 33) = gc X 33 (M 33) := by
    show Sum.inr (6, [rfB (P 33 0) (X.2.2 34), rfB (P 33 1) (X.2.2 35), rfB (P 33 2) (X.2.2 36), .int (M 33 3), .int (M 33 4), .int (M 33 5)]) = _
    rw [allB_at h (k := 33) (j := 0) (by decide) (by decide), allB_at h (k := 33) (j := 1) (by decide) (by decide), allB_at h (k := 33) (j := 2) (by decide) (by decide)]
    rfl
  rw [← e]
  exact q
theorem cvt_34 (P : PB) (X : GE) (M : MM) (H : Heap) (h : allB P = true) : cvt P X M H 34 := fun q => q
theorem cvt_35 (P : PB) (X : GE) (M : MM) (H : Heap) (h : allB P = true) : cvt P X M H 35 := fun q => q
theorem cvt_36 (P : PB) (X : GE) (M : MM) (H : Heap) (h : allB P = true) : cvt P X M H 36 := fun q => q
theorem cvt_37 (P : PB) (X : GE) (M : MM) (H : Heap) (h : allB P = true) : cvt P X M H 37 := by
  intro q
  have e : gcP X 37 (P 37) (M 37) = gc X 37 (M 37) := by
    show Sum.inr (6, [rfB (P 37 0) (X.2.2 38), rfB (P 37 1) (X.2.2 39), rfB (P 37 2) (X.2.2 40), .int (M 37 3), .int (M 37 4), .int (M 37 5)]) = _
    rw [allB_at h (k := 37) (j := 0) (by decide) (by decide), allB_at h (k := 37) (j := 1) (by decide) (by decide), allB_at h (k := 37) (j := 2) (by decide) (by decide)]
    rfl
  rw [← e]
  exact q
theorem cvt_38 (P : PB) (X : GE) (M : MM) (H : Heap) (h : allB P = true) : cvt P X M H 38 := fun q => q
theorem cvt_39 (P : PB) (X : GE) (M : MM) (H : Heap) (h : allB P = true) : cvt P X M H 39 := fun q => q
theorem cvt_40 (P : PB) (X : GE) (M : MM) (H : Heap) (h : allB P = true) : cvt P X M H 40 := fun q => q
theorem cvt_41 (P : PB) (X : GE) (M : MM) (H : Heap) (h : allB P = true) : cvt P X M H 41 := by
  intro q
  have e : gcP X 41 (P 41) (M 41) = gc X 41 (M 41) := by
    show Sum.inr (6, [rfB (P 41 0) (X.2.2 42), rfB (P 41 1) (X.2.2 43), rfB (P 41 2) (X.2.2 44), .int (M 41 3), .int (M 41 4), .int (M 41 5)]) = _
    rw [allB_at h (k := 41) (j := 0) (by decide) (by decide), allB_at h (k := 41) (j := 1) (by decide) (by decide), allB_at h (k := 41) (j := 2) (by decide) (by decide)]
    rfl
  rw [← e]
  exact q
theorem cvt_42 (P : PB) (X : GE) (M : MM) (H : Heap) (h : allB P = true) : cvt P X M H 42 := fun q => q
theorem cvt_43 (P : PB) (X : GE) (M : MM) (H : Heap) (h : allB P = true) : cvt P X M H 43 := fun q => q
theorem cvt_44 (P : PB) (X : GE) (M : MM) (H : Heap) (h : allB P = true) : cvt P X M H 44 := fun q => q
theorem cvt_45 (P : PB) (X : GE) (M : MM) (H : Heap) (h : allB P = true) : cvt P X M H 45 := by
  intro q
  have e : gcP X 45 (P 45) (M 45) = gc X 45 (M 45) := by
    show Sum.inr (6, [rfB (P 45 0) (X.2.2 46), rfB (P 45 1) (X.2.2 47), rfB (P 45 2) (X.2.2 48), .int (M 45 3), .int (M 45 4), .int (M 45 5)]) = _
    rw [allB_at h (k := 45) (j := 0) (by decide) (by decide), allB_at h (k := 45) (j := 1) (by decide) (by decide), allB_at h (k := 45) (j := 2) (by decide) (by decide)]
    rfl
  rw [← e]
  exact q
theorem cvt_46 (P : PB) (X : GE) (M : MM) (H : Heap) (h : allB P = true) : cvt P X M H 46 := fun q => q
theorem cvt_47 (P : PB) (X : GE) (M : MM) (H : Heap) (h : allB P = true) : cvt P X M H 47 := fun q => q
theorem cvt_48 (P : PB) (X : GE) (M : MM) (H : Heap) (h : allB P = true) : cvt P X M H 48 := fun q => q
theorem cvt_49 (P : PB) (X : GE) (M : MM) (H : Heap) (h : allB P = true) : cvt P X M H 49 := by
  intro q
  have e : gcP X 49 (P 49) (M 49) = gc X 49 (M 49) := by
    show Sum.inr (6, [rfB (P 49 0) (X.2.2 50), rfB (P 49 1) (X.2.2 51), rfB (P 49 2) (X.2.2 52), .int (M 49 3), .int (M 49 4), .int (M 49 5)]) = _
    rw [allB_at h (k := 49) (j := 0) (by decide) (by decide), allB_at h (k := 49) (j := 1) (by decide) (by decide), allB_at h (k := 49) (j := 2) (by decide) (by decide)]
    rfl
  rw [← e]
  exact q
theorem cvt_50 (P : PB) (X : GE) (M : MM) (H : Heap) (h : allB P = true) : cvt P X M H 50 := fun q => q
theorem cvt_51 (P : PB) (X : GE) (M : MM) (H : Heap) (h : allB P = true) : cvt P X M H 51 := fun q => q
theorem cvt_52 (P : PB) (X : GE) (M : MM) (H : Heap) (h : allB P = true) : cvt P X M H 52 := fun q => q
theorem cvt_53 (P : PB) (X : GE) (M : MM) (H : Heap) (h : allB P = true) : cvt P X M H 53 := by
  intro q
  have e : gcP X 53 (P 53) (M 53) = gc X 53 (M 53) := by
    show Sum.inr (6, [rfB (P 53 0) (X.2.2 54), rfB (P 53 1) (X.2.2 55), rfB (P 53 2) (X.2.2 56), .int (M 53 3), .int (M 53 4), .int (M 53 5)]) = _
    rw [allB_at h (k := 53) (j := 0) (by decide) (by decide), allB_at h (k := 53) (j := 1) (by decide) (by decide), allB_at h (k := 53) (j := 2) (by decide) (by decide)]
    rfl
  rw [← e]
  exact q
theorem cvt_54 (P : PB) (X : GE) (M : MM) (H : Heap) (h : allB P = true) : cvt P X M H 54 := fun q => q
theorem cvt_55 (P : PB) (X : GE) (M : MM) (H : Heap) (h : allB P = true) : cvt P X M H 55 := fun q => q
theorem cvt_56 (P : PB) (X : GE) (M : MM) (H : Heap) (h : allB P = true) : cvt P X M H 56 := fun q => q
theorem cvt_57 (P : PB) (X : GE) (M : MM) (H : Heap) (h : allB P = true) : cvt P X M H 57 := by
  intro q
  have e : gcP X 57 (P 57) (M 57) = gc X 57 (M 57) := by
    show Sum.inr (6, [rfB (P 57 0) (X.2.2 58), rfB (P 57 1) (X.2.2 59), rfB (P 57 2) (X.2.2 60), .int (M 57 3), .int (M 57 4), .int (M 57 5)]) = _
    rw [allB_at h (k := 57) (j := 0) (by decide) (by decide), allB_at h (k := 57) (j := 1) (by decide) (by decide), allB_at h (k := 57) (j := 2) (by decide) (by decide)]
    rfl
  rw [← e]
  exact q
theorem cvt_58 (P : PB) (X : GE) (M : MM) (H : Heap) (h : allB P = true) : cvt P X M H 58 := fun q => q
theorem cvt_59 (P : PB) (X : GE) (M : MM) (H : Heap) (h : allB P = true) : cvt P X M H 59 := fun q => q
theorem cvt_60 (P : PB) (X : GE) (M : MM) (H : Heap) (h : allB P = true) : cvt P X M H 60 := fun q => q
theorem cvt_61 (P : PB) (X : GE) (M : MM) (H : Heap) (h : allB P = true) : cvt P X M H 61 := by
  intro q
  have e : gcP X 61 (P 61) (M 61) = gc X 61 (M 61) := by
    show Sum.inr (5, [rfB (P 61 0) (X.2.2 62), rfB (P 61 1) (X.2.2 63), rfB (P 61 2) (X.2.2 64), .int (M 61 3)]) = _
    rw [allB_at h (k := 61) (j := 0) (by decide) (by decide), allB_at h (k := 61) (j := 1) (by decide) (by decide), allB_at h (k := 61) (j := 2) (by decide) (by decide)]
    rfl
  rw [← e]
  exact q
theorem cvt_62 (P : PB) (X : GE) (M : MM) (H : Heap) (h : allB P = true) : cvt P X M H 62 := fun q => q
theorem cvt_63 (P : PB) (X : GE) (M : MM) (H : Heap) (h : allB P = true) : cvt P X M H 63 := fun q => q
theorem cvt_64 (P : PB) (X : GE) (M : MM) (H : Heap) (h : allB P = true) : cvt P X M H 64 := fun q => q
theorem cvt_65 (P : PB) (X : GE) (M : MM) (H : Heap) (h : allB P = true) : cvt P X M H 65 := by
  intro q
  have e : gcP X 65 (P 65) (M 65) = gc X 65 (M 65) := by
    show Sum.inr (2, [rfB (P 65 0) (X.2.2 66), rfB (P 65 1) (X.2.2 67), .int (M 65 2)]) = _
    rw [allB_at h (k := 65) (j := 0) (by decide) (by decide), allB_at h (k := 65) (j := 1) (by decide) (by decide)]
    rfl
  rw [← e]
  exact q
theorem cvt_66 (P : PB) (X : GE) (M : MM) (H : Heap) (h : allB P = true) : cvt P X M H 66 := fun q => q
theorem cvt_67 (P : PB) (X : GE) (M : MM) (H : Heap) (h : allB P = true) : cvt P X M H 67 := fun q => q
theorem cvt_68 (P : PB) (X : GE) (M : MM) (H : Heap) (h : allB P = true) : cvt P X M H 68 := by
  intro q
  have e : gcP X 68 (P 68) (M 68) = gc X 68 (M 68) := by
    show Sum.inr (0, [rfB (P 68 0) (X.2.2 69), rfB (P 68 1) (X.2.2 70), .int (M 68 2), .int (M 68 3), .int (M 68 4)]) = _
    rw [allB_at h (k := 68) (j := 0) (by decide) (by decide), allB_at h (k := 68) (j := 1) (by decide) (by decide)]
    rfl
  rw [← e]
  exact q
theorem cvt_69 (P : PB) (X : GE) (M : MM) (H : Heap) (h : allB P = true) : cvt P X M H 69 := fun q => q
theorem cvt_70 (P : PB) (X : GE) (M : MM) (H : Heap) (h : allB P = true) : cvt P X M H 70 := fun q => q
theorem cvt_71 (P : PB) (X : GE) (M : MM) (H : Heap) (h : allB P = true) : cvt P X M H 71 := by
  intro q
  have e : gcP X 71 (P 71) (M 71) = gc X 71 (M 71) := by
    show Sum.inr (4, [rfB (P 71 0) (X.2.2 72), rfB (P 71 1) (X.2.2 73), rfB (P 71 2) (X.2.2 74), rfB (P 71 3) (X.2.2 75), .int (M 71 4), .int (M 71 5)]) = _
    rw [allB_at h (k := 71) (j := 0) (by decide) (by decide), allB_at h (k := 71) (j := 1) (by decide) (by decide), allB_at h (k := 71) (j := 2) (by decide) (by decide), allB_at h (k := 71) (j := 3) (by decide) (by decide)]
    rfl
  rw [← e]
  exact q
theorem cvt_72 (P : PB) (X : GE) (M : MM) (H : Heap) (h : allB P = true) : cvt P X M H 72 := fun q => q
theorem cvt_73 (P : PB) (X : GE) (M : MM) (H : Heap) (h : allB P = true) : cvt P X M H 73 := fun q => q
theorem cvt_74 (P : PB) (X : GE) (M : MM) (H : Heap) (h : allB P = true) : cvt P X M H 74 := fun q => q
theorem cvt_75 (P : PB) (X : GE) (M : MM) (H : Heap) (h : allB P = true) : cvt P X M H 75 := fun q => q
theorem cvt_76 (P : PB) (X : GE) (M : MM) (H : Heap) (h : allB P = true) : cvt P X M H 76 := by
  intro q
  have e : gcP X 76 (P 76) (M 76) = gc X 76 (M 76) := by
    show Sum.inr (8, [rfB (P 76 0) (X.2.2 77), rfB (P 76 1) (X.2.2 78), rfB (P 76 2) (X.2.2 79), rfB (P 76 3) (X.2.2 80), rfB (P 76 4) (X.2.2 81), rfB (P 76 5) (X.2.2 82), .int (M 76 6)]) = _
    rw [allB_at h (k := 76) (j := 0) (by decide) (by decide), allB_at h (k := 76) (j := 1) (by decide) (by decide), allB_at h (k := 76) (j := 2) (by decide) (by decide), allB_at h (k := 76) (j := 3) (by decide) (by decide), allB_at h (k := 76) (j := 4) (by decide) (by decide), allB_at h (k := 76) (j := 5) (by decide) (by decide)]
    rfl
  rw [← e]
  exact q
theorem cvt_77 (P : PB) (X : GE) (M : MM) (H : Heap) (h : allB P = true) : cvt P X M H 77 := fun q => q
theorem cvt_78 (P : PB) (X : GE) (M : MM) (H : Heap) (h : allB P = true) : cvt P X M H 78 := fun q => q
theorem cvt_79 (P : PB) (X : GE) (M : MM) (H : Heap) (h : allB P = true) : cvt P X M H 79 := fun q => q
theorem cvt_80 (P : PB) (X : GE) (M : MM) (H : Heap) (h : allB P = true) : cvt P X M H 80 := fun q => q
theorem cvt_81 (P : PB) (X : GE) (M : MM) (H : Heap) (h : allB P = true) : cvt P X M H 81 := fun q => q
theorem cvt_82 (P : PB) (X : GE) (M : MM) (H : Heap) (h : allB P = true) : cvt P X M H 82 := fun q => q
theorem cvt_83 (P : PB) (X : GE) (M : MM) (H : Heap) (h : allB P = true) : cvt P X M H 83 := by
  intro q
  have e : gcP X 83 (P 83) (M 83) = gc X 83 (M 83) := by
    show Sum.inr (10, [.int (M 83 0), .int (M 83 1), rfB (P 83 2) (X.2.2 84), rfB (P 83 3) (X.2.2 85), rfB (P 83 4) (X.2.2 86), .int (M 83 5), .int (M 83 6), .int (M 83 7), .int (M 83 8), rfB (P 83 9) (X.2.2 87), rfB (P 83 10) (X.2.2 88), rfB (P 83 11) (X.2.2 89), rfB (P 83 12) (X.2.2 90), rfB (P 83 13) (X.2.2 91), .int (M 83 14), .int (M 83 15), .int (M 83 16), .int (M 83 17), .int (M 83 18), rfB (P 83 19) (X.2.2 92), rfB (P 83 20) (X.2.2 93), .int (M 83 21), rfB (P 83 22) (X.2.2 94), rfB (P 83 23) (X.2.2 95), rfB (P 83 24) (X.2.2 96), rfB (P 83 25) (X.2.2 97), rfB (P 83 26) (X.2.2 98), rfB (P 83 27) (X.2.2 99), .int (M 83 28), .int (M 83 29), rfB (P 83 30) (X.2.2 100), .int (M 83 31), .int (M 83 32), rfB (P 83 33) (X.2.2 101), rfB (P 83 34) (X.2.2 102), .int (M 83 35), rfB (P 83 36) (X.2.2 103), rfB (P 83 37) (X.2.2 104), rfB (P 83 38) (X.2.2 105)]) = _
    rw [allB_at h (k := 83) (j := 2) (by decide) (by decide), allB_at h (k := 83) (j := 3) (by decide) (by decide), allB_at h (k := 83) (j := 4) (by decide) (by decide), allB_at h (k := 83) (j := 9) (by decide) (by decide), allB_at h (k := 83) (j := 10) (by decide) (by decide), allB_at h (k := 83) (j := 11) (by decide) (by decide), allB_at h (k := 83) (j := 12) (by decide) (by decide), allB_at h (k := 83) (j := 13) (by decide) (by decide), allB_at h (k := 83) (j := 19) (by decide) (by decide), allB_at h (k := 83) (j := 20) (by decide) (by decide), allB_at h (k := 83) (j := 22) (by decide) (by decide), allB_at h (k := 83) (j := 23) (by decide) (by decide), allB_at h (k := 83) (j := 24) (by decide) (by decide), allB_at h (k := 83) (j := 25) (by decide) (by decide), allB_at h (k := 83) (j := 26) (by decide) (by decide), allB_at h (k := 83) (j := 27) (by decide) (by decide), allB_at h (k := 83) (j := 30) (by decide) (by decide), allB_at h (k := 83) (j := 33) (by decide) (by decide), allB_at h (k := 83) (j := 34) (by decide) (by decide), allB_at h (k := 83) (j := 36) (by decide) (by decide), allB_at h (k := 83) (j := 37) (by decide) (by decide), allB_at h (k := 83) (j := 38) (by decide) (by decide)]
    rfl
  rw [← e]
  exact q
theorem cvt_84 (P : PB) (X : GE) (M : MM) (H : Heap) (h : allB P = true) : cvt P X M H 84 := fun q => q
theorem cvt_85 (P : PB) (X : GE) (M : MM) (H : Heap) (h : allB P = true) : cvt P X M H 85 := fun q => q
theorem cvt_86 (P : PB) (X : GE) (M : MM) (H : Heap) (h : allB P = true) : cvt P X M H 86 := fun q => q
theorem cvt_87 (P : PB) (X : GE) (M : MM) (H : Heap) (h : allB P = true) : cvt P X M H 87 := fun q => q
theorem cvt_88 (P : PB) (X : GE) (M : MM) (H : Heap) (h : allB P = true) : cvt P X M H 88 := fun q => q
theorem cvt_89 (P : PB) (X : GE) (M : MM) (H : Heap) (h : allB P = true) : cvt P X M H 89 := fun q => q
theorem cvt_90 (P : PB) (X : GE) (M : MM) (H : Heap) (h : allB P = true) : cvt P X M H 90 := fun q => q
theorem cvt_91 (P : PB) (X : GE) (M : MM) (H : Heap) (h : allB P = true) : cvt P X M H 91 := fun q => q
theorem cvt_92 (P : PB) (X : GE) (M : MM) (H : Heap) (h : allB P = true) : cvt P X M H 92 := fun q => q
theorem cvt_93 (P : PB) (X : GE) (M : MM) (H : Heap) (h : allB P = true) : cvt P X M H 93 := fun q => q
theorem cvt_94 (P : PB) (X : GE) (M : MM) (H : Heap) (h : allB P = true) : cvt P X M H 94 := fun q => q
theorem cvt_95 (P : PB) (X : GE) (M : MM) (H : Heap) (h : allB P = true) : cvt P X M H 95 := fun q => q
theorem cvt_96 (P : PB) (X : GE) (M : MM) (H : Heap) (h : allB P = true) : cvt P X M H 96 := fun q => q
theorem cvt_97 (P : PB) (X : GE) (M : MM) (H : Heap) (h : allB P = true) : cvt P X M H 97 := fun q => q
theorem cvt_98 (P : PB) (X : GE) (M : MM) (H : Heap) (h : allB P = true) : cvt P X M H 98 := fun q => q
theorem cvt_99 (P : PB) (X : GE) (M : MM) (H : Heap) (h : allB P = true) : cvt P X M H 99 := fun q => q
theorem cvt_100 (P : PB) (X : GE) (M : MM) (H : Heap) (h : allB P = true) : cvt P X M H 100 := fun q => q
theorem cvt_101 (P : PB) (X : GE) (M : MM) (H : Heap) (h : allB P = true) : cvt P X M H 101 := fun q => q
theorem cvt_102 (P : PB) (X : GE) (M : MM) (H : Heap) (h : allB P = true) : cvt P X M H 102 := fun q => q
theorem cvt_103 (P : PB) (X : GE) (M : MM) (H : Heap) (h : allB P = true) : cvt P X M H 103 := fun q => q
theorem cvt_104 (P : PB) (X : GE) (M : MM) (H : Heap) (h : allB P = true) : cvt P X M H 104 := fun q => q
theorem cvt_105 (P : PB) (X : GE) (M : MM) (H : Heap) (h : allB P = true) : cvt P X M H 105 := fun q => q
theorem cvt_all (P : PB) (X : GE) (M : MM) (H : Heap) (h : allB P = true) : ∀ k, k < 106 → cvt P X M H k := by
  have c10 : ∀ a, a < 10 → cvt P X M H a := lt_s (lt_s (lt_s (lt_s (lt_s (lt_s (lt_s (lt_s (lt_s (lt_s (lt_0) (cvt_0 P X M H h)) (cvt_1 P X M H h)) (cvt_2 P X M H h)) (cvt_3 P X M H h)) (cvt_4 P X M H h)) (cvt_5 P X M H h)) (cvt_6 P X M H h)) (cvt_7 P X M H h)) (cvt_8 P X M H h)) (cvt_9 P X M H h)
  have c20 : ∀ a, a < 20 → cvt P X M H a := lt_s (lt_s (lt_s (lt_s (lt_s (lt_s (lt_s (lt_s (lt_s (lt_s (c10) (cvt_10 P X M H h)) (cvt_11 P X M H h)) (cvt_12 P X M H h)) (cvt_13 P X M H h)) (cvt_14 P X M H h)) (cvt_15 P X M H h)) (cvt_16 P X M H h)) (cvt_17 P X M H h)) (cvt_18 P X M H h)) (cvt_19 P X M H h)
  have c30 : ∀ a, a < 30 → cvt P X M H a := lt_s (lt_s (lt_s (lt_s (lt_s (lt_s (lt_s (lt_s (lt_s (lt_s (c20) (cvt_20 P X M H h)) (cvt_21 P X M H h)) (cvt_22 P X M H h)) (cvt_23 P X M H h)) (cvt_24 P X M H h)) (cvt_25 P X M H h)) (cvt_26 P X M H h)) (cvt_27 P X M H h)) (cvt_28 P X M H h)) (cvt_29 P X M H h)
  have c40 : ∀ a, a < 40 → cvt P X M H a := lt_s (lt_s (lt_s (lt_s (lt_s (lt_s (lt_s (lt_s (lt_s (lt_s (c30) (cvt_30 P X M H h)) (cvt_31 P X M H h)) (cvt_32 P X M H h)) (cvt_33 P X M H h)) (cvt_34 P X M H h)) (cvt_35 P X M H h)) (cvt_36 P X M H h)) (cvt_37 P X M H h)) (cvt_38 P X M H h)) (cvt_39 P X M H h)
  have c50 : ∀ a, a < 50 → cvt P X M H a := lt_s (lt_s (lt_s (lt_s (lt_s (lt_s (lt_s (lt_s (lt_s (lt_s (c40) (cvt_40 P X M H h)) (cvt_41 P X M H h)) (cvt_42 P X M H h)) (cvt_43 P X M H h)) (cvt_44 P X M H h)) (cvt_45 P X M H h)) (cvt_46 P X M H h)) (cvt_47 P X M H h)) (cvt_48 P X M H h)) (cvt_49 P X M H h)
  have c60 : ∀ a, a < 60 → cvt P X M H a := lt_s (lt_s (lt_s (lt_s (lt_s (lt_s (lt_s (lt_s (lt_s (lt_s (c50) (cvt_50 P X M H h)) (cvt_51 P X M H h)) (cvt_52 P X M H h)) (cvt_53 P X M H h)) (cvt_54 P X M H h)) (cvt_55 P X M H h)) (cvt_56 P X M H h)) (cvt_57 P X M H h)) (cvt_58 P X M H h)) (cvt_59 P X M H h)
  have c70 : ∀ a, a < 70 → cvt P X M H a := lt_s (lt_s (lt_s (lt_s (lt_s (lt_s (lt_s (lt_s (lt_s (lt_s (c60) (cvt_60 P X M H h)) (cvt_61 P X M H h)) (cvt_62 P X M H h)) (cvt_63 P X M H h)) (cvt_64 P X M H h)) (cvt_65 P X M H h)) (cvt_66 P X M H h)) (cvt_67 P X M H h)) (cvt_68 P X M H h)) (cvt_69 P X M H h)
  have c80 : ∀ a, a < 80 → cvt P X M H a := lt_s (lt_s (lt_s (lt_s (lt_s (lt_s (lt_s (lt_s (lt_s (lt_s (c70) (cvt_70 P X M H h)) (cvt_71 P X M H h)) (cvt_72 P X M H h)) (cvt_73 P X M H h)) (cvt_74 P X M H h)) (cvt_75 P X M H h)) (cvt_76 P X M H h)) (cvt_77 P X M H h)) (cvt_78 P X M H h)) (cvt_79 P X M H h)
  have c90 : ∀ a, a < 90 → cvt P X M H a := lt_s (lt_s (lt_s (lt_s (lt_s (lt_s (lt_s (lt_s (lt_s (lt_s (c80) (cvt_80 P X M H h)) (cvt_81 P X M H h)) (cvt_82 P X M H h)) (cvt_83 P X M H h)) (cvt_84 P X M H h)) (cvt_85 P X M H h)) (cvt_86 P X M H h)) (cvt_87 P X M H h)) (cvt_88 P X M H h)) (cvt_89 P X M H h)
  have c100 : ∀ a, a < 100 → cvt P X M H a := lt_s (lt_s (lt_s (lt_s (lt_s (lt_s (lt_s (lt_s (lt_s (lt_s (c90) (cvt_90 P X M H h)) (cvt_91 P X M H h)) (cvt_92 P X M H h)) (cvt_93 P X M H h)) (cvt_94 P X M H h)) (cvt_95 P X M H h)) (cvt_96 P X M H h)) (cvt_97 P X M H h)) (cvt_98 P X M H h)) (cvt_99 P X M H h)
  have c106 : ∀ a, a < 106 → cvt P X M H a := lt_s (lt_s (lt_s (lt_s (lt_s (lt_s (c100) (cvt_100 P X M H h)) (cvt_101 P X M H h)) (cvt_102 P X M H h)) (cvt_103 P X M H h)) (cvt_104 P X M H h)) (cvt_105 P X M H h)
  exact c106
theorem gW_at {X : GE} {M : MM} {k : Nat} {q : Nat × va_E} (h : (gW X M)[k]? = some q) : k < 106 ∧ q = (X.2.2 k, gc X k (M k)) := by
  have hk : k < 106 := by
    have := (List.getElem?_eq_some_iff.mp h).1
    rwa [gW_len] at this
  rw [gW_get X M hk] at h
  exact ⟨hk, (Option.some.inj h).symm⟩
theorem GP_of {X : GE} (hX : XB X) {P : PB} {M : MM} {H : Heap} (hP : allB P = true) (h : GQ X P M 106 H) : GP X M H := by
  refine ⟨fun k q hq => ?_, fun i j a b ha hb hab => ?_, fun k q hq => ?_⟩
  · obtain ⟨hk, rfl⟩ := gW_at hq
    exact cvt_all P X M H hP k hk (h.1 k _ (gWP_get X P M hk))
  · rw [(gW_at ha).2, (gW_at hb).2] at hab
    have h1 := hX i
    have h2 := hX j
    have h3 : X.2.2 i = X.2.2 j := hab
    omega
  · exact ⟨k, (gW_at hq).1, by rw [(gW_at hq).2]⟩
def MZ : MM := fun _ _ => 0
def PZ : PB := fun _ _ => false
def P10F (P : PB) : PB := (sB (sB (sB (sB (sB (sB (sB (sB (sB (sB (sB (sB (sB (sB (sB (sB (sB (sB (sB (sB (sB (sB (sB (sB (sB (sB (sB (sB (sB (sB (sB (sB (sB (sB (sB (sB (sB (sB (sB (sB (sB (sB (sB (sB (sB (sB (sB (sB (sB (sB (sB (sB (sB (sB (sB (sB (sB (sB (sB (sB (sB (sB (sB (sB (sB (sB (sB (sB (sB (sB (sB (sB (sB (sB (sB (sB (sB (sB (sB (sB (sB (sB P 0 0) 2 0) 1 (0 : Int32).toNatClampNeg) 4 0) 1 (1 : Int32).toNatClampNeg) 6 0) 1 (2 : Int32).toNatClampNeg) 8 0) 1 (3 : Int32).toNatClampNeg) 0 3) 11 0) 11 1) 11 2) 10 (0 : Int32).toNatClampNeg) 15 0) 15 1) 15 2) 10 (1 : Int32).toNatClampNeg) 0 4) 20 0) 20 1) 23 0) 23 1) 23 2) 20 2) 0 1) 27 0) 29 0) 29 1) 29 2) 28 (0 : Int32).toNatClampNeg) 33 0) 33 1) 33 2) 28 (1 : Int32).toNatClampNeg) 37 0) 37 1) 37 2) 28 (2 : Int32).toNatClampNeg) 41 0) 41 1) 41 2) 28 (3 : Int32).toNatClampNeg) 45 0) 45 1) 45 2) 28 (4 : Int32).toNatClampNeg) 49 0) 49 1) 49 2) 28 (5 : Int32).toNatClampNeg) 53 0) 53 1) 53 2) 28 (6 : Int32).toNatClampNeg) 57 0) 57 1) 57 2) 28 (7 : Int32).toNatClampNeg) 0 2) 61 0) 61 1) 61 2) 0 5) 65 0) 65 1) 0 6) 68 0) 68 1) 0 7) 71 0) 71 1) 71 2) 71 3) 0 8) 76 0) 76 1) 76 2) 76 3) 76 4) 76 5) 0 9)
def P11F (P : PB) : PB := (sB (sB (sB (sB (sB (sB (sB (sB (sB (sB (sB (sB (sB (sB (sB (sB (sB (sB (sB (sB (sB (sB P 83 2) 83 3) 83 4) 83 9) 83 10) 83 11) 83 12) 83 13) 83 19) 83 20) 83 22) 83 23) 83 24) 83 25) 83 26) 83 27) 83 30) 83 33) 83 34) 83 36) 83 37) 83 38)
def M11F (M : MM) : MM := (up2 (up2 (up2 (up2 M 84 (0 : Int32).toNatClampNeg (-9 : Int32)) 84 (1 : Int32).toNatClampNeg (-9 : Int32)) 84 (2 : Int32).toNatClampNeg (-9 : Int32)) 84 (3 : Int32).toNatClampNeg (-9 : Int32))
def M0 : MM := M11F MZ
theorem allB_0 : allB (P11F (P10F PZ)) = true := by decide +kernel
theorem P10F_hi : ∀ i, 83 < i → i < 106 → P10F PZ i = fun _ => false := by
  intro i h1 h2
  unfold P10F
  (repeat rw [sB_ne (by omega)])
  rfl
theorem nestL_in : ∀ q ∈ nestL, Cond.methodLinkNest q.1 q.2.1 q.2.2 "FlyFloor" ∈ lw_tbl := by decide +kernel
set_option maxHeartbeats 4000000 in
set_option maxRecDepth 100000 in
theorem lw_world {p : Program} {s : State} {m : MethodId} {meth : Method} {c : Code} {b L : Nat} {xs : Nat → Int32} (C0 : lw_At p s m meth c b L xs) : ∃ X : GE, GK X s ∧ GKC X s ∧ XB X ∧ X.2.2 0 = s.heap.size := by
  obtain ⟨hx, hb, hr, hml, hown, hts, hX, hbl, hlocks, hgv⟩ := id C0
  obtain ⟨c0, iS0, hKn0⟩ := u_known (C := RX0) (T := TX0) (N := 5) (n := 5) hts inX0 (hts (.instantiable RX0 5) (by decide +kernel))
  obtain ⟨c1, iS1, hKn1⟩ := u_known (C := RX1) (T := TX1) (N := 4) (n := 4) hts inX1 (hts (.instantiable RX1 4) (by decide +kernel))
  obtain ⟨c2, iS2, hKn2⟩ := u_known (C := RX2) (T := TX2) (N := 3) (n := 3) hts inX2 (hts (.instantiable RX2 3) (by decide +kernel))
  obtain ⟨c3, iS3, hKn3⟩ := u_known (C := RX3) (T := TX3) (N := 3) (n := 3) hts inX3 (hts (.instantiable RX3 3) (by decide +kernel))
  obtain ⟨c4, iS4, hKn4⟩ := u_known (C := RX4) (T := TX4) (N := 6) (n := 6) hts inX4 (hts (.instantiable RX4 6) (by decide +kernel))
  obtain ⟨c5, iS5, hKn5⟩ := u_known (C := RX5) (T := TX5) (N := 4) (n := 4) hts inX5 (hts (.instantiable RX5 4) (by decide +kernel))
  obtain ⟨c6, iS6, hKn6⟩ := u_known (C := RX6) (T := TX6) (N := 6) (n := 6) hts inX6 (hts (.instantiable RX6 6) (by decide +kernel))
  obtain ⟨c7, iS7, hKn7⟩ := u_known (C := RX7) (T := TX7) (N := 4) (n := 4) hts inX7 (hts (.instantiable RX7 4) (by decide +kernel))
  obtain ⟨c8, iS8, hKn8⟩ := u_known (C := RX8) (T := TX8) (N := 7) (n := 7) hts inX8 (hts (.instantiable RX8 7) (by decide +kernel))
  obtain ⟨c9, iS9, hKn9⟩ := u_known (C := RX10) (T := TX10) (N := 12) (n := 12) hts inX10 (hts (.instantiable RX10 12) (by decide +kernel))
  obtain ⟨c10, iS10, hKn10⟩ := u_known (C := RX11) (T := TX11) (N := 39) (n := 39) hts inX11 (hts (.instantiable RX11 39) (by decide +kernel))
  obtain ⟨dC, dI, hKc⟩ : ∃ (dC : Nat → ClassId) (dI : Nat → Nat → Nat), ∀ (k : Nat) (q : vw_C), vwCl[k]? = some q → u_Kn s q.1 q.2.1 q.2.2 (dC k) (dI k) := by
    refine ⟨fun k => if k = 0 then c0 else if k = 1 then c1 else if k = 2 then c2 else if k = 3 then c3 else if k = 4 then c4 else if k = 5 then c5 else if k = 6 then c6 else if k = 7 then c7 else if k = 8 then c8 else if k = 9 then c9 else c10, fun k => if k = 0 then iS0 else if k = 1 then iS1 else if k = 2 then iS2 else if k = 3 then iS3 else if k = 4 then iS4 else if k = 5 then iS5 else if k = 6 then iS6 else if k = 7 then iS7 else if k = 8 then iS8 else if k = 9 then iS9 else iS10, ?_⟩
    intro k q hq
    match k, hq with
    | 0, hq => cases hq; exact hKn0
    | 1, hq => cases hq; exact hKn1
    | 2, hq => cases hq; exact hKn2
    | 3, hq => cases hq; exact hKn3
    | 4, hq => cases hq; exact hKn4
    | 5, hq => cases hq; exact hKn5
    | 6, hq => cases hq; exact hKn6
    | 7, hq => cases hq; exact hKn7
    | 8, hq => cases hq; exact hKn8
    | 9, hq => cases hq; exact hKn9
    | 10, hq => cases hq; exact hKn10
    | k + 11, hq => simp [vwCl] at hq
  obtain ⟨cI, kI, pI, a1, a2, a3⟩ := Cond.arrayClass_spec (hts (.arrayClass .int) (by decide +kernel))
  obtain ⟨cZ, kZ, pZ, b1, b2, b3⟩ := Cond.arrayClass_spec (hts (.arrayClass .boolean) (by decide +kernel))
  obtain ⟨pS, cS, kS, d1, d2, d3, d4, d5⟩ := Cond.arrayOver_spec (hts (.arrayOver (.object RX7)) (by decide +kernel))
  obtain ⟨pR, cR, kR, e1, e2, e3, e4, e5⟩ := Cond.arrayOver_spec (hts (.arrayOver (.object RX6)) (by decide +kernel))
  have hK : va_K (dC, dI) vwCl [(cI, .int), (cZ, .boolean), (cS, .object RX7), (cR, .object RX6)] s := by
    refine ⟨hKc, fun k q hq => ?_⟩
    match k, hq with
    | 0, hq => cases hq; exact ⟨fun n z => ⟨(fun k h => by cases h), kI, a2, pI, a3⟩, a1⟩
    | 1, hq => cases hq; exact ⟨fun n z => ⟨(fun k h => by cases h), kZ, b2, pZ, b3⟩, b1⟩
    | 2, hq => cases hq; exact ⟨fun n z => ⟨(fun k h => by cases h), kS, d3, pS, d4⟩, kS, pS, d3, d4, d1, d5⟩
    | 3, hq => cases hq; exact ⟨fun n z => ⟨(fun k h => by cases h), kR, e3, pR, e4⟩, kR, pR, e3, e4, e1, e5⟩
    | k + 4, hq => simp at hq
  refine ⟨((dC, dI), (fun t => if t = 0 then cI else if t = 1 then cZ else if t = 2 then cS else cR), fun k => s.heap.size + k), ⟨hK, ?_, ?_⟩, ⟨hK, ?_, ?_, ?_⟩, fun k => by simp, by simp⟩
  · exact va_Nw.of rfl (hts (.methodLinkNest RX1 53 yX10_pullOf "FlyFloor") (by decide +kernel))
  · exact va_Nw.of rfl (hts (.methodLinkNest RX9 15 yX10_within "FlyFloor") (by decide +kernel))
  · intro q hq
    exact va_Nw.of rfl (hts (.methodLinkNest q.1 q.2.1 q.2.2 "FlyFloor") (nestL_in q hq))
  · exact va_AO.of (hts (.arrayOver (.object RX7)) (by decide +kernel))
  · exact va_AO.of (hts (.arrayOver (.object RX6)) (by decide +kernel))
set_option maxHeartbeats 4000000 in
set_option maxRecDepth 100000 in
theorem whole_open {Inv : MM → Prop} (h0 : Inv M0) (hs : AllSt Inv) {p : Program} {e : Env} {s : State} {m : MethodId} {below : List Frame} {meth : Method} {c : Code} (l : Launch) {b L : Nat} {xs : Nat → Int32} (hL : L ≤ 384) (C0 : lw_At p s m meth c b L xs) : W p l e room_1 s m #[Value.ref b] below meth c s.heap [] 0 0 (lw_Z below #[Value.ref b] s) (entryFrame m ([Value.ref b] : List Value).toArray 4) := by
  obtain ⟨X, hK, hKC, hXB, hX0⟩ := lw_world C0
  have S : LX p s m meth c b L xs X := ⟨C0, hL, hK, hXB, hX0⟩
  have SC : CXC p s m #[Value.ref b] meth c cL_law 4 wsL_law RL (some .boolean) X := ⟨lw_fix S, C0.2.2.1, C0.2.2.2.2.2.2.2.2.1, hKC, hXB, by omega⟩
  have hl := lv_entry ([Value.ref b]) (n := 4) (Nat.le_of_ble_eq_true rfl)
  rw [lg_entry_eq]
  have key : CV p l e room_1 s m #[Value.ref b] below meth c 4 X (lw_Z below #[Value.ref b] s) 0 0 PZ MZ 0 0 [(0, .ref b)] [] := by
    refine cv_new 0 SC (ci := 9) (C := RX10) (T := TX10) (N := 12) tyX10 inlX10 tyX10_ok (by decide +kernel) (by decide +kernel) (by decide +kernel) rfl (fs := [.null, .null, .null, .null, .null, .null, .null, .null, .null, .null, .int 0, .int 0]) rfl (fun j hj => by rcases (show j = 0 ∨ j = 1 ∨ j = 2 ∨ j = 3 ∨ j = 4 ∨ j = 5 ∨ j = 6 ∨ j = 7 ∨ j = 8 ∨ j = 9 ∨ j = 10 ∨ j = 11 by omega) with rfl | rfl | rfl | rfl | rfl | rfl | rfl | rfl | rfl | rfl | rfl | rfl <;> rfl) (by decide +kernel) (by decide +kernel) dL_law_0 ?_
    refine cv_dup 3 SC dL_law_3 rfl ?_
    refine cv_cI 4 SC (rest := [.ref (X.2.2 0)]) (cc_X10_init l X PZ MZ (fun i _ _ => rfl) (fun i _ _ => rfl)) (cwI 0 (lw_hts S) gL_law_X10_init rfl rfl rfl (lw_hts S _ (by decide +kernel)) (lw_hts S _ (by decide +kernel)) (lw_hts S _ (by decide +kernel)) rfl (by decide +kernel) ⟨by decide +kernel, by decide +kernel⟩) rfl (Nat.le_of_ble_eq_true rfl) dL_law_4 (by decide +kernel) (by decide +kernel) ?_
    refine cv_astore_n 7 SC 1 (lv' := [(1, .ref (X.2.2 0)), (0, .ref b)]) dL_law_7 rfl (by decide) rfl ?_
    refine cv_new 8 SC (ci := 10) (C := RX11) (T := TX11) (N := 39) tyX11 inlX11 tyX11_ok (by decide +kernel) (by decide +kernel) (by decide +kernel) rfl (fs := [.int 0, .int 0, .null, .null, .null, .int 0, .int 0, .int 0, .int 0, .null, .null, .null, .null, .null, .int 0, .int 0, .int 0, .int 0, .int 0, .null, .null, .int 0, .null, .null, .null, .null, .null, .null, .int 0, .int 0, .null, .int 0, .int 0, .null, .null, .int 0, .null, .null, .null]) (by show gcP X 83 ((P10F PZ) 83) (MZ 83) = _; rw [show (P10F PZ) 83 = (fun _ => false) from by unfold P10F; (repeat rw [sB_ne (by omega)]); rfl]; rfl) (fun j hj => by rcases (show j = 0 ∨ j = 1 ∨ j = 2 ∨ j = 3 ∨ j = 4 ∨ j = 5 ∨ j = 6 ∨ j = 7 ∨ j = 8 ∨ j = 9 ∨ j = 10 ∨ j = 11 ∨ j = 12 ∨ j = 13 ∨ j = 14 ∨ j = 15 ∨ j = 16 ∨ j = 17 ∨ j = 18 ∨ j = 19 ∨ j = 20 ∨ j = 21 ∨ j = 22 ∨ j = 23 ∨ j = 24 ∨ j = 25 ∨ j = 26 ∨ j = 27 ∨ j = 28 ∨ j = 29 ∨ j = 30 ∨ j = 31 ∨ j = 32 ∨ j = 33 ∨ j = 34 ∨ j = 35 ∨ j = 36 ∨ j = 37 ∨ j = 38 by omega) with rfl | rfl | rfl | rfl | rfl | rfl | rfl | rfl | rfl | rfl | rfl | rfl | rfl | rfl | rfl | rfl | rfl | rfl | rfl | rfl | rfl | rfl | rfl | rfl | rfl | rfl | rfl | rfl | rfl | rfl | rfl | rfl | rfl | rfl | rfl | rfl | rfl | rfl | rfl <;> rfl) (by decide +kernel) (by decide +kernel) dL_law_8 ?_
    refine cv_dup 11 SC dL_law_11 rfl ?_
    refine cv_cI 12 SC (rest := [.ref (X.2.2 83)]) (cc_X11_init l X (P10F PZ) MZ (fun i _ _ => rfl) P10F_hi) (cwI 0 (lw_hts S) gL_law_X11_init rfl rfl rfl (lw_hts S _ (by decide +kernel)) (lw_hts S _ (by decide +kernel)) (lw_hts S _ (by decide +kernel)) rfl (by decide +kernel) ⟨by decide +kernel, by decide +kernel⟩) rfl (Nat.le_of_ble_eq_true rfl) dL_law_12 (by decide +kernel) (by decide +kernel) ?_
    refine cv_astore_n 15 SC 2 (lv' := [(2, .ref (X.2.2 83)), (1, .ref (X.2.2 0)), (0, .ref b)]) dL_law_15 rfl (by decide) rfl ?_
    refine cv_iconst 16 SC (0 : Int32) dL_law_16 (by decide) ?_
    refine cv_istore_n 17 SC 3 (lv' := [(3, .int (0 : Int32)), (2, .ref (X.2.2 83)), (1, .ref (X.2.2 0)), (0, .ref b)]) dL_law_17 rfl (by decide) rfl ?_
    intro H locs ls hG hS hl
    refine W.widen (k := 600000) (n := 7302250) (by decide) (by decide) ?_
    have hG : GQ X (P11F (P10F PZ)) M0 106 H := hG
    exact lw_loop S hs (L + 1) 0 M0 h0 (Nat.zero_le _) (by omega) H locs ls (GP_of hXB allB_0 hG) hS (lv_sub hl [3, 2, 1, 0] rfl)
  refine key s.heap [] _ ⟨fun k q hq => ?_, by omega⟩ va_S.rf hl
  have := (gWP_at hq).1
  omega
