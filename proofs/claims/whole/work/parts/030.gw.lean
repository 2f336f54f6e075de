abbrev MM : Type := Nat → Nat → Int32
abbrev GE : Type := va_G × (Nat → ClassId) × (Nat → Nat)
def upR (M : MM) (k : Nat) (r : Nat → Int32) : MM := fun i => if i = k then r else M i
def up2 (M : MM) (k j : Nat) (v : Int32) : MM := upR M k (upd (M k) j v)
def nm {α β : Type} (a : α) (f : α → β) : β := f a
def ib (i : Int32) (n : Nat) : Bool := !(decide (i < 0) || decide (n ≤ i.toNatClampNeg))
def nb (v : Int32) : Bool := decide (v = 0 ∨ v = 1)
def cpok (sp dp n : Int32) (n0 n1 : Nat) : Bool := !(decide (sp < 0)) && !(decide (dp < 0)) && !(decide (n < 0)) && decide (sp.toNatClampNeg + n.toNatClampNeg ≤ n0) && decide (dp.toNatClampNeg + n.toNatClampNeg ≤ n1)
theorem ib_in {i : Int32} {n : Nat} (h : ib i n = true) : vp_in i n := by
  intro q
  rcases q with q | q <;> simp [ib, q] at h
theorem ib_lt {i : Int32} {n : Nat} (h : ib i n = true) : i.toNatClampNeg < n := by
  have h := ib_in h
  exact Nat.not_le.mp fun q => h (Or.inr q)
theorem nb_nar {v : Int32} (h : nb v = true) : narrow .boolean (.int v) = .int v := by
  have h : v = 0 ∨ v = 1 := by simpa [nb] using h
  rcases h with rfl | rfl <;> rfl
def sl32 (x y : Int32) : Int32 := x <<< (y &&& 31)
def sr32 (x y : Int32) : Int32 := x >>> (y &&& 31)
def us32 (x y : Int32) : Int32 := (x.toUInt32 >>> (y.toUInt32 &&& Int32.toUInt32 31)).toInt32
def rm32 (x y : Int32) : Int32 := x - x / y * y
def mx32 (x y : Int32) : Int32 := if x < y then y else x
def mn32 (x y : Int32) : Int32 := if y < x then y else x
def ab32 (x : Int32) : Int32 := if 0 ≤ x then x else 0 - x
def ib8 (x : Int32) : Int32 := x.toInt8.toInt32
def ib16 (x : Int32) : Int32 := x.toInt16.toInt32
def sl64 (x : Int64) (y : Int32) : Int64 := x <<< (y.toInt64 &&& 63)
def rm64 (x y : Int64) : Int64 := x - x / y * y
def gcl (X : GE) : List ((Nat → Int32) → va_E) := [
  fun r => Sum.inr (9, [.ref (X.2.2 1), .ref (X.2.2 20), .ref (X.2.2 27), .ref (X.2.2 10), .ref (X.2.2 19), .ref (X.2.2 61), .ref (X.2.2 65), .ref (X.2.2 68), .ref (X.2.2 71), .ref (X.2.2 76), .int (r 10), .int (r 11)]),
  fun _ => Sum.inl (X.2.1 2, 4, Sum.inr (Sum.inr (Sum.inr (Sum.inr (fun i => some (X.2.2 (2 + 2 * i))))))),
  fun r => Sum.inr (7, [.ref (X.2.2 3), .int (r 1), .int (r 2), .int (r 3)]),
  fun r => Sum.inl (X.2.1 0, 60, Sum.inl r),
  fun r => Sum.inr (7, [.ref (X.2.2 5), .int (r 1), .int (r 2), .int (r 3)]),
  fun r => Sum.inl (X.2.1 0, 60, Sum.inl r),
  fun r => Sum.inr (7, [.ref (X.2.2 7), .int (r 1), .int (r 2), .int (r 3)]),
  fun r => Sum.inl (X.2.1 0, 60, Sum.inl r),
  fun r => Sum.inr (7, [.ref (X.2.2 9), .int (r 1), .int (r 2), .int (r 3)]),
  fun r => Sum.inl (X.2.1 0, 60, Sum.inl r),
  fun _ => Sum.inl (X.2.1 3, 2, Sum.inr (Sum.inr (Sum.inr (Sum.inr (fun i => some (X.2.2 (11 + 4 * i))))))),
  fun r => Sum.inr (6, [.ref (X.2.2 12), .ref (X.2.2 13), .ref (X.2.2 14), .int (r 3), .int (r 4), .int (r 5)]),
  fun r => Sum.inl (X.2.1 0, 8, Sum.inl r),
  fun r => Sum.inl (X.2.1 0, 8, Sum.inl r),
  fun r => Sum.inl (X.2.1 0, 8, Sum.inl r),
  fun r => Sum.inr (6, [.ref (X.2.2 16), .ref (X.2.2 17), .ref (X.2.2 18), .int (r 3), .int (r 4), .int (r 5)]),
  fun r => Sum.inl (X.2.1 0, 8, Sum.inl r),
  fun r => Sum.inl (X.2.1 0, 8, Sum.inl r),
  fun r => Sum.inl (X.2.1 0, 8, Sum.inl r),
  fun r => Sum.inl (X.2.1 1, 2, Sum.inl r),
  fun r => Sum.inr (1, [.ref (X.2.2 21), .ref (X.2.2 22), .ref (X.2.2 23), .int (r 3)]),
  fun r => Sum.inl (X.2.1 0, 8, Sum.inl r),
  fun r => Sum.inl (X.2.1 0, 8, Sum.inl r),
  fun r => Sum.inr (6, [.ref (X.2.2 24), .ref (X.2.2 25), .ref (X.2.2 26), .int (r 3), .int (r 4), .int (r 5)]),
  fun r => Sum.inl (X.2.1 0, 8, Sum.inl r),
  fun r => Sum.inl (X.2.1 0, 8, Sum.inl r),
  fun r => Sum.inl (X.2.1 0, 8, Sum.inl r),
  fun r => Sum.inr (3, [.ref (X.2.2 28), .int (r 1), .int (r 2)]),
  fun _ => Sum.inl (X.2.1 3, 8, Sum.inr (Sum.inr (Sum.inr (Sum.inr (fun i => some (X.2.2 (29 + 4 * i))))))),
  fun r => Sum.inr (6, [.ref (X.2.2 30), .ref (X.2.2 31), .ref (X.2.2 32), .int (r 3), .int (r 4), .int (r 5)]),
  fun r => Sum.inl (X.2.1 0, 8, Sum.inl r),
  fun r => Sum.inl (X.2.1 0, 8, Sum.inl r),
  fun r => Sum.inl (X.2.1 0, 8, Sum.inl r),
  fun r => Sum.inr (6, [.ref (X.2.2 34), .ref (X.2.2 35), .ref (X.2.2 36), .int (r 3), .int (r 4), .int (r 5)]),
  fun r => Sum.inl (X.2.1 0, 8, Sum.inl r),
  fun r => Sum.inl (X.2.1 0, 8, Sum.inl r),
  fun r => Sum.inl (X.2.1 0, 8, Sum.inl r),
  fun r => Sum.inr (6, [.ref (X.2.2 38), .ref (X.2.2 39), .ref (X.2.2 40), .int (r 3), .int (r 4), .int (r 5)]),
  fun r => Sum.inl (X.2.1 0, 8, Sum.inl r),
  fun r => Sum.inl (X.2.1 0, 8, Sum.inl r),
  fun r => Sum.inl (X.2.1 0, 8, Sum.inl r),
  fun r => Sum.inr (6, [.ref (X.2.2 42), .ref (X.2.2 43), .ref (X.2.2 44), .int (r 3), .int (r 4), .int (r 5)]),
  fun r => Sum.inl (X.2.1 0, 8, Sum.inl r),
  fun r => Sum.inl (X.2.1 0, 8, Sum.inl r),
  fun r => Sum.inl (X.2.1 0, 8, Sum.inl r),
  fun r => Sum.inr (6, [.ref (X.2.2 46), .ref (X.2.2 47), .ref (X.2.2 48), .int (r 3), .int (r 4), .int (r 5)]),
  fun r => Sum.inl (X.2.1 0, 8, Sum.inl r),
  fun r => Sum.inl (X.2.1 0, 8, Sum.inl r),
  fun r => Sum.inl (X.2.1 0, 8, Sum.inl r),
  fun r => Sum.inr (6, [.ref (X.2.2 50), .ref (X.2.2 51), .ref (X.2.2 52), .int (r 3), .int (r 4), .int (r 5)]),
  fun r => Sum.inl (X.2.1 0, 8, Sum.inl r),
  fun r => Sum.inl (X.2.1 0, 8, Sum.inl r),
  fun r => Sum.inl (X.2.1 0, 8, Sum.inl r),
  fun r => Sum.inr (6, [.ref (X.2.2 54), .ref (X.2.2 55), .ref (X.2.2 56), .int (r 3), .int (r 4), .int (r 5)]),
  fun r => Sum.inl (X.2.1 0, 8, Sum.inl r),
  fun r => Sum.inl (X.2.1 0, 8, Sum.inl r),
  fun r => Sum.inl (X.2.1 0, 8, Sum.inl r),
  fun r => Sum.inr (6, [.ref (X.2.2 58), .ref (X.2.2 59), .ref (X.2.2 60), .int (r 3), .int (r 4), .int (r 5)]),
  fun r => Sum.inl (X.2.1 0, 8, Sum.inl r),
  fun r => Sum.inl (X.2.1 0, 8, Sum.inl r),
  fun r => Sum.inl (X.2.1 0, 8, Sum.inl r),
  fun r => Sum.inr (5, [.ref (X.2.2 62), .ref (X.2.2 63), .ref (X.2.2 64), .int (r 3)]),
  fun r => Sum.inl (X.2.1 0, 8, Sum.inl r),
  fun r => Sum.inl (X.2.1 0, 8, Sum.inl r),
  fun r => Sum.inl (X.2.1 0, 8, Sum.inl r),
  fun r => Sum.inr (2, [.ref (X.2.2 66), .ref (X.2.2 67), .int (r 2)]),
  fun r => Sum.inl (X.2.1 0, 20, Sum.inl r),
  fun r => Sum.inl (X.2.1 0, 20, Sum.inl r),
  fun r => Sum.inr (0, [.ref (X.2.2 69), .ref (X.2.2 70), .int (r 2), .int (r 3), .int (r 4)]),
  fun r => Sum.inl (X.2.1 0, 8, Sum.inl r),
  fun r => Sum.inl (X.2.1 0, 8, Sum.inl r),
  fun r => Sum.inr (4, [.ref (X.2.2 72), .ref (X.2.2 73), .ref (X.2.2 74), .ref (X.2.2 75), .int (r 4), .int (r 5)]),
  fun r => Sum.inl (X.2.1 0, 24, Sum.inl r),
  fun r => Sum.inl (X.2.1 0, 24, Sum.inl r),
  fun r => Sum.inl (X.2.1 0, 90, Sum.inl r),
  fun r => Sum.inl (X.2.1 0, 8, Sum.inl r),
  fun r => Sum.inr (8, [.ref (X.2.2 77), .ref (X.2.2 78), .ref (X.2.2 79), .ref (X.2.2 80), .ref (X.2.2 81), .ref (X.2.2 82), .int (r 6)]),
  fun r => Sum.inl (X.2.1 0, 32, Sum.inl r),
  fun r => Sum.inl (X.2.1 0, 32, Sum.inl r),
  fun r => Sum.inl (X.2.1 0, 8, Sum.inl r),
  fun r => Sum.inl (X.2.1 0, 8, Sum.inl r),
  fun r => Sum.inl (X.2.1 0, 5, Sum.inl r),
  fun r => Sum.inl (X.2.1 0, 5, Sum.inl r),
  fun r => Sum.inr (10, [.int (r 0), .int (r 1), .ref (X.2.2 84), .ref (X.2.2 85), .ref (X.2.2 86), .int (r 5), .int (r 6), .int (r 7), .int (r 8), .ref (X.2.2 87), .ref (X.2.2 88), .ref (X.2.2 89), .ref (X.2.2 90), .ref (X.2.2 91), .int (r 14), .int (r 15), .int (r 16), .int (r 17), .int (r 18), .ref (X.2.2 92), .ref (X.2.2 93), .int (r 21), .ref (X.2.2 94), .ref (X.2.2 95), .ref (X.2.2 96), .ref (X.2.2 97), .ref (X.2.2 98), .ref (X.2.2 99), .int (r 28), .int (r 29), .ref (X.2.2 100), .int (r 31), .int (r 32), .ref (X.2.2 101), .ref (X.2.2 102), .int (r 35), .ref (X.2.2 103), .ref (X.2.2 104), .ref (X.2.2 105)]),
  fun r => Sum.inl (X.2.1 0, 4, Sum.inl r),
  fun r => Sum.inl (X.2.1 0, 4, Sum.inl r),
  fun r => Sum.inl (X.2.1 0, 240, Sum.inl r),
  fun r => Sum.inl (X.2.1 0, 8, Sum.inl r),
  fun r => Sum.inl (X.2.1 0, 8, Sum.inl r),
  fun r => Sum.inl (X.2.1 0, 8, Sum.inl r),
  fun r => Sum.inl (X.2.1 0, 8, Sum.inl r),
  fun r => Sum.inl (X.2.1 0, 8, Sum.inl r),
  fun r => Sum.inl (X.2.1 0, 40, Sum.inl r),
  fun r => Sum.inl (X.2.1 0, 8, Sum.inl r),
  fun r => Sum.inl (X.2.1 0, 200, Sum.inl r),
  fun r => Sum.inl (X.2.1 1, 2, Sum.inl r),
  fun r => Sum.inl (X.2.1 0, 50, Sum.inl r),
  fun r => Sum.inl (X.2.1 0, 2, Sum.inl r),
  fun r => Sum.inl (X.2.1 0, 2, Sum.inl r),
  fun r => Sum.inl (X.2.1 0, 8, Sum.inl r),
  fun r => Sum.inl (X.2.1 0, 8, Sum.inl r),
  fun r => Sum.inl (X.2.1 0, 5, Sum.inl r),
  fun r => Sum.inl (X.2.1 0, 5, Sum.inl r),
  fun r => Sum.inl (X.2.1 0, 8, Sum.inl r),
  fun r => Sum.inl (X.2.1 0, 8, Sum.inl r),
  fun r => Sum.inl (X.2.1 0, 8, Sum.inl r)]
def gc (X : GE) (k : Nat) : (Nat → Int32) → va_E := ((gcl X)[k]?).getD (fun _ => Sum.inr (0, []))
def gW (X : GE) (M : MM) : va_W := (List.range 106).map (fun k => (X.2.2 k, gc X k (M k)))
theorem gW_get (X : GE) (M : MM) {k : Nat} (hk : k < 106) : (gW X M)[k]? = some (X.2.2 k, gc X k (M k)) := by
  unfold gW
  rw [List.getElem?_map, List.getElem?_range hk]
  rfl
theorem gW_len (X : GE) (M : MM) : (gW X M).length = 106 := by simp [gW]
theorem gW_set (X : GE) (M : MM) (k : Nat) (r : Nat → Int32) : (gW X M).set k (X.2.2 k, gc X k r) = gW X (upR M k r) := by
  apply List.ext_getElem?
  intro i
  by_cases hk : i < 106
  · by_cases hi : i = k
    · subst hi
      rw [List.getElem?_set_self (by rw [gW_len]; exact hk), gW_get _ _ hk]
      simp [upR]
    · rw [List.getElem?_set_ne (Ne.symm hi), gW_get _ _ hk, gW_get _ _ hk]
      simp [upR, hi]
  · rw [List.getElem?_eq_none (by rw [List.length_set, gW_len]; omega), List.getElem?_eq_none (by rw [gW_len]; omega)]
def gTy (X : GE) : List (ClassId × FieldType) := [(X.2.1 0, .int), (X.2.1 1, .boolean), (X.2.1 2, .object RX7), (X.2.1 3, .object RX6)]
def gA (X : GE) : Nat → Prop := fun q => ∃ k, k < 106 ∧ q = X.2.2 k
def GK (X : GE) (U : State) : Prop := va_K X.1 vwCl (gTy X) U ∧ va_Nw (.methodLinkNest RX1 53 yX10_pullOf "FlyFloor") U ∧ va_Nw (.methodLinkNest RX9 15 yX10_within "FlyFloor") U
theorem GK.warm {X : GE} {U T : State} (h : GK X U) (hW : U.WarmedH T.vm) : GK X T := ⟨va_K.moved hW.alike h.1, va_Nw.warmM hW h.2.1, va_Nw.warmM hW h.2.2⟩
theorem GK.same {X : GE} {U T : State} (h : GK X U) (hW : U.vm = T.vm) : GK X T := ⟨va_K.moved (by rw [hW]; exact Vm.Alike.refl T.vm) h.1, va_Nw.same rfl hW h.2.1, va_Nw.same rfl hW h.2.2⟩
def GP (X : GE) (M : MM) (H : Heap) : Prop := va_P X.1 vwCl (gW X M) H ∧ va_D (gA X) (gW X M)
def GW (X : GE) (s : State) (M : MM) (H : Heap) (locs : List Loc) : Prop := GP X M H ∧ va_S (gA X) s.heap H locs
def gPc (X : GE) (M : MM) (av : List Value) : Array Value → State → Prop := va_Pc av (fun U => GK X U ∧ GP X M U.heap)
theorem gPc_blind (X : GE) (M : MM) (av : List Value) : FrameBlind (gPc X M av) := fun a U g mk q => ⟨q.1, q.2.1.same (T := U.calling g mk a) rfl, q.2.2⟩
def gQi (X : GE) (r : Int32) (M' : MM) : Array Value → State → Outcome → State → Prop := va_Qi (fun (q : Int32) (u : MM) => q = r ∧ u = M') (fun u t => GP X u t.heap) (gA X)
def gQl (X : GE) (r : Int64) (M' : MM) : Array Value → State → Outcome → State → Prop := va_Ql (fun (q : Int64) (u : MM) => q = r ∧ u = M') (fun u t => GP X u t.heap) (gA X)
def gQv (X : GE) (M' : MM) : Array Value → State → Outcome → State → Prop := va_Qv (fun (u : MM) => u = M') (fun u t => GP X u t.heap) (gA X)
def CTi (l : Launch) (y : MethodName) (ws : List Cond) (rm : Room) (X : GE) (av : List Value) (M : MM) (r : Int32) (M' : MM) : Prop := Met l y ws rm (gPc X M av) (gQi X r M') 0 0 (gA X)
def CTl (l : Launch) (y : MethodName) (ws : List Cond) (rm : Room) (X : GE) (av : List Value) (M : MM) (r : Int64) (M' : MM) : Prop := Met l y ws rm (gPc X M av) (gQl X r M') 0 0 (gA X)
def CTv (l : Launch) (y : MethodName) (ws : List Cond) (rm : Room) (X : GE) (av : List Value) (M : MM) (M' : MM) : Prop := Met l y ws rm (gPc X M av) (gQv X M') 0 0 (gA X)
def CX (p : Program) (s : State) (m : MethodId) (args : Array Value) (meth : Method) (c : Code) (cc : ByteArray) (nL : Nat) (Ts : List Cond) (own : String) (ret : Option FieldType) (X : GE) : Prop := CallFix p m c cc nL s args Ts own ∧ meth.sig.returnType = ret ∧ meth.locks = false ∧ GK X s
def V (p : Program) (l : Launch) (e : Env) (R : Room) (s : State) (m : MethodId) (args : Array Value) (below : List Frame) (meth : Method) (c : Code) (nL : Nat) (X : GE) (Q : State → Prop) (M : MM) (pc : Nat) (lv : List (Nat × Value)) (st : List Value) : Prop :=
  ∀ (H : Heap) (locs : List Loc) (ls : Array Slot), GW X s M H locs → lv_has ls nL lv → W p l e R s m args below meth c H locs 0 0 Q (F0 m pc ls st)
-- what a cell is, whatever it holds
def hF (X : GE) (k ci j : Nat) (v : (Nat → Int32) → Value) : Prop := k < 106 ∧ ∀ r, ∃ fs, gc X k r = Sum.inr (ci, fs) ∧ fs[j]? = some (v r)
def hPt (X : GE) (k ci j : Nat) : Prop := k < 106 ∧ ∀ r x, ∃ fs, gc X k r = Sum.inr (ci, fs) ∧ j < fs.length ∧ gc X k (upd r j x) = Sum.inr (ci, fs.set j (.int x))
def hO (X : GE) (k ci : Nat) : Prop := k < 106 ∧ ∀ r, ∃ fs, gc X k r = Sum.inr (ci, fs)
def hI (X : GE) (k n : Nat) : Prop := k < 106 ∧ ∀ r, gc X k r = Sum.inl (X.2.1 0, n, Sum.inl r)
def hZ (X : GE) (k n : Nat) : Prop := k < 106 ∧ ∀ r, gc X k r = Sum.inl (X.2.1 1, n, Sum.inl r)
def hR (X : GE) (k n t : Nat) (g : Nat → Nat) : Prop := k < 106 ∧ ∀ r, gc X k r = Sum.inl (X.2.1 t, n, Sum.inr (Sum.inr (Sum.inr (Sum.inr (fun i => some (X.2.2 (g i)))))))
theorem hF_0_sheets (X : GE) : hF X 0 9 0 (fun r => .ref (X.2.2 1)) := ⟨by decide, fun _ => ⟨_, rfl, rfl⟩⟩
theorem hF_0_loft (X : GE) : hF X 0 9 1 (fun r => .ref (X.2.2 20)) := ⟨by decide, fun _ => ⟨_, rfl, rfl⟩⟩
theorem hF_0_past (X : GE) : hF X 0 9 2 (fun r => .ref (X.2.2 27)) := ⟨by decide, fun _ => ⟨_, rfl, rfl⟩⟩
theorem hF_0_images (X : GE) : hF X 0 9 3 (fun r => .ref (X.2.2 10)) := ⟨by decide, fun _ => ⟨_, rfl, rfl⟩⟩
theorem hF_0_kept (X : GE) : hF X 0 9 4 (fun r => .ref (X.2.2 19)) := ⟨by decide, fun _ => ⟨_, rfl, rfl⟩⟩
theorem hF_0_readings (X : GE) : hF X 0 9 5 (fun r => .ref (X.2.2 61)) := ⟨by decide, fun _ => ⟨_, rfl, rfl⟩⟩
theorem hF_0_moves (X : GE) : hF X 0 9 6 (fun r => .ref (X.2.2 65)) := ⟨by decide, fun _ => ⟨_, rfl, rfl⟩⟩
theorem hF_0_told (X : GE) : hF X 0 9 7 (fun r => .ref (X.2.2 68)) := ⟨by decide, fun _ => ⟨_, rfl, rfl⟩⟩
theorem hF_0_shown (X : GE) : hF X 0 9 8 (fun r => .ref (X.2.2 71)) := ⟨by decide, fun _ => ⟨_, rfl, rfl⟩⟩
theorem hF_0_parted (X : GE) : hF X 0 9 9 (fun r => .ref (X.2.2 76)) := ⟨by decide, fun _ => ⟨_, rfl, rfl⟩⟩
theorem hF_0_left (X : GE) : hF X 0 9 10 (fun r => .int (r 10)) := ⟨by decide, fun _ => ⟨_, rfl, rfl⟩⟩
theorem hP_0_left (X : GE) : hPt X 0 9 10 := ⟨by decide, fun _ _ => ⟨_, rfl, Nat.le_of_ble_eq_true rfl, rfl⟩⟩
theorem hF_0_lastFault (X : GE) : hF X 0 9 11 (fun r => .int (r 11)) := ⟨by decide, fun _ => ⟨_, rfl, rfl⟩⟩
theorem hP_0_lastFault (X : GE) : hPt X 0 9 11 := ⟨by decide, fun _ _ => ⟨_, rfl, Nat.le_of_ble_eq_true rfl, rfl⟩⟩
theorem hO_0 (X : GE) : hO X 0 9 := ⟨by decide, fun _ => ⟨_, rfl⟩⟩
theorem hR_1 (X : GE) : hR X 1 4 2 (fun i => 2 + 2 * i) := ⟨by decide, fun _ => rfl⟩
theorem hR_10 (X : GE) : hR X 10 2 3 (fun i => 11 + 4 * i) := ⟨by decide, fun _ => rfl⟩
theorem hZ_19 (X : GE) : hZ X 19 2 := ⟨by decide, fun _ => rfl⟩
theorem hF_20_kind (X : GE) : hF X 20 1 0 (fun r => .ref (X.2.2 21)) := ⟨by decide, fun _ => ⟨_, rfl, rfl⟩⟩
theorem hF_20_drop (X : GE) : hF X 20 1 1 (fun r => .ref (X.2.2 22)) := ⟨by decide, fun _ => ⟨_, rfl, rfl⟩⟩
theorem hF_20_now (X : GE) : hF X 20 1 2 (fun r => .ref (X.2.2 23)) := ⟨by decide, fun _ => ⟨_, rfl, rfl⟩⟩
theorem hF_20_count (X : GE) : hF X 20 1 3 (fun r => .int (r 3)) := ⟨by decide, fun _ => ⟨_, rfl, rfl⟩⟩
theorem hP_20_count (X : GE) : hPt X 20 1 3 := ⟨by decide, fun _ _ => ⟨_, rfl, Nat.le_of_ble_eq_true rfl, rfl⟩⟩
theorem hO_20 (X : GE) : hO X 20 1 := ⟨by decide, fun _ => ⟨_, rfl⟩⟩
theorem hI_21 (X : GE) : hI X 21 8 := ⟨by decide, fun _ => rfl⟩
theorem hI_22 (X : GE) : hI X 22 8 := ⟨by decide, fun _ => rfl⟩
theorem hF_23_load (X : GE) : hF X 23 6 0 (fun r => .ref (X.2.2 24)) := ⟨by decide, fun _ => ⟨_, rfl, rfl⟩⟩
theorem hF_23_bricks (X : GE) : hF X 23 6 1 (fun r => .ref (X.2.2 25)) := ⟨by decide, fun _ => ⟨_, rfl, rfl⟩⟩
theorem hF_23_height (X : GE) : hF X 23 6 2 (fun r => .ref (X.2.2 26)) := ⟨by decide, fun _ => ⟨_, rfl, rfl⟩⟩
theorem hF_23_stock (X : GE) : hF X 23 6 3 (fun r => .int (r 3)) := ⟨by decide, fun _ => ⟨_, rfl, rfl⟩⟩
theorem hP_23_stock (X : GE) : hPt X 23 6 3 := ⟨by decide, fun _ _ => ⟨_, rfl, Nat.le_of_ble_eq_true rfl, rfl⟩⟩
theorem hF_23_hands (X : GE) : hF X 23 6 4 (fun r => .int (r 4)) := ⟨by decide, fun _ => ⟨_, rfl, rfl⟩⟩
theorem hP_23_hands (X : GE) : hPt X 23 6 4 := ⟨by decide, fun _ _ => ⟨_, rfl, Nat.le_of_ble_eq_true rfl, rfl⟩⟩
theorem hF_23_trim (X : GE) : hF X 23 6 5 (fun r => .int (r 5)) := ⟨by decide, fun _ => ⟨_, rfl, rfl⟩⟩
theorem hP_23_trim (X : GE) : hPt X 23 6 5 := ⟨by decide, fun _ _ => ⟨_, rfl, Nat.le_of_ble_eq_true rfl, rfl⟩⟩
theorem hO_23 (X : GE) : hO X 23 6 := ⟨by decide, fun _ => ⟨_, rfl⟩⟩
theorem hI_24 (X : GE) : hI X 24 8 := ⟨by decide, fun _ => rfl⟩
theorem hI_25 (X : GE) : hI X 25 8 := ⟨by decide, fun _ => rfl⟩
theorem hI_26 (X : GE) : hI X 26 8 := ⟨by decide, fun _ => rfl⟩
theorem hF_27_rigs (X : GE) : hF X 27 3 0 (fun r => .ref (X.2.2 28)) := ⟨by decide, fun _ => ⟨_, rfl, rfl⟩⟩
theorem hF_27_known (X : GE) : hF X 27 3 1 (fun r => .int (r 1)) := ⟨by decide, fun _ => ⟨_, rfl, rfl⟩⟩
theorem hP_27_known (X : GE) : hPt X 27 3 1 := ⟨by decide, fun _ _ => ⟨_, rfl, Nat.le_of_ble_eq_true rfl, rfl⟩⟩
theorem hF_27_next (X : GE) : hF X 27 3 2 (fun r => .int (r 2)) := ⟨by decide, fun _ => ⟨_, rfl, rfl⟩⟩
theorem hP_27_next (X : GE) : hPt X 27 3 2 := ⟨by decide, fun _ _ => ⟨_, rfl, Nat.le_of_ble_eq_true rfl, rfl⟩⟩
theorem hO_27 (X : GE) : hO X 27 3 := ⟨by decide, fun _ => ⟨_, rfl⟩⟩
theorem hR_28 (X : GE) : hR X 28 8 3 (fun i => 29 + 4 * i) := ⟨by decide, fun _ => rfl⟩
theorem hF_61_batten (X : GE) : hF X 61 5 0 (fun r => .ref (X.2.2 62)) := ⟨by decide, fun _ => ⟨_, rfl, rfl⟩⟩
theorem hF_61_far (X : GE) : hF X 61 5 1 (fun r => .ref (X.2.2 63)) := ⟨by decide, fun _ => ⟨_, rfl, rfl⟩⟩
theorem hF_61_effort (X : GE) : hF X 61 5 2 (fun r => .ref (X.2.2 64)) := ⟨by decide, fun _ => ⟨_, rfl, rfl⟩⟩
theorem hF_61_count (X : GE) : hF X 61 5 3 (fun r => .int (r 3)) := ⟨by decide, fun _ => ⟨_, rfl, rfl⟩⟩
theorem hP_61_count (X : GE) : hPt X 61 5 3 := ⟨by decide, fun _ _ => ⟨_, rfl, Nat.le_of_ble_eq_true rfl, rfl⟩⟩
theorem hO_61 (X : GE) : hO X 61 5 := ⟨by decide, fun _ => ⟨_, rfl⟩⟩
theorem hI_62 (X : GE) : hI X 62 8 := ⟨by decide, fun _ => rfl⟩
theorem hI_63 (X : GE) : hI X 63 8 := ⟨by decide, fun _ => rfl⟩
theorem hI_64 (X : GE) : hI X 64 8 := ⟨by decide, fun _ => rfl⟩
theorem hF_65_batten (X : GE) : hF X 65 2 0 (fun r => .ref (X.2.2 66)) := ⟨by decide, fun _ => ⟨_, rfl, rfl⟩⟩
theorem hF_65_height (X : GE) : hF X 65 2 1 (fun r => .ref (X.2.2 67)) := ⟨by decide, fun _ => ⟨_, rfl, rfl⟩⟩
theorem hF_65_count (X : GE) : hF X 65 2 2 (fun r => .int (r 2)) := ⟨by decide, fun _ => ⟨_, rfl, rfl⟩⟩
theorem hP_65_count (X : GE) : hPt X 65 2 2 := ⟨by decide, fun _ _ => ⟨_, rfl, Nat.le_of_ble_eq_true rfl, rfl⟩⟩
theorem hO_65 (X : GE) : hO X 65 2 := ⟨by decide, fun _ => ⟨_, rfl⟩⟩
theorem hI_66 (X : GE) : hI X 66 20 := ⟨by decide, fun _ => rfl⟩
theorem hI_67 (X : GE) : hI X 67 20 := ⟨by decide, fun _ => rfl⟩
theorem hF_68_before (X : GE) : hF X 68 0 0 (fun r => .ref (X.2.2 69)) := ⟨by decide, fun _ => ⟨_, rfl, rfl⟩⟩
theorem hF_68_after (X : GE) : hF X 68 0 1 (fun r => .ref (X.2.2 70)) := ⟨by decide, fun _ => ⟨_, rfl, rfl⟩⟩
theorem hF_68_beats (X : GE) : hF X 68 0 2 (fun r => .int (r 2)) := ⟨by decide, fun _ => ⟨_, rfl, rfl⟩⟩
theorem hP_68_beats (X : GE) : hPt X 68 0 2 := ⟨by decide, fun _ _ => ⟨_, rfl, Nat.le_of_ble_eq_true rfl, rfl⟩⟩
theorem hF_68_effort (X : GE) : hF X 68 0 3 (fun r => .int (r 3)) := ⟨by decide, fun _ => ⟨_, rfl, rfl⟩⟩
theorem hP_68_effort (X : GE) : hPt X 68 0 3 := ⟨by decide, fun _ _ => ⟨_, rfl, Nat.le_of_ble_eq_true rfl, rfl⟩⟩
theorem hF_68_firstWrong (X : GE) : hF X 68 0 4 (fun r => .int (r 4)) := ⟨by decide, fun _ => ⟨_, rfl, rfl⟩⟩
theorem hP_68_firstWrong (X : GE) : hPt X 68 0 4 := ⟨by decide, fun _ _ => ⟨_, rfl, Nat.le_of_ble_eq_true rfl, rfl⟩⟩
theorem hO_68 (X : GE) : hO X 68 0 := ⟨by decide, fun _ => ⟨_, rfl⟩⟩
theorem hI_69 (X : GE) : hI X 69 8 := ⟨by decide, fun _ => rfl⟩
theorem hI_70 (X : GE) : hI X 70 8 := ⟨by decide, fun _ => rfl⟩
theorem hF_71_tried (X : GE) : hF X 71 4 0 (fun r => .ref (X.2.2 72)) := ⟨by decide, fun _ => ⟨_, rfl, rfl⟩⟩
theorem hF_71_cost (X : GE) : hF X 71 4 1 (fun r => .ref (X.2.2 73)) := ⟨by decide, fun _ => ⟨_, rfl, rfl⟩⟩
theorem hF_71_least (X : GE) : hF X 71 4 2 (fun r => .ref (X.2.2 74)) := ⟨by decide, fun _ => ⟨_, rfl, rfl⟩⟩
theorem hF_71_height (X : GE) : hF X 71 4 3 (fun r => .ref (X.2.2 75)) := ⟨by decide, fun _ => ⟨_, rfl, rfl⟩⟩
theorem hF_71_goes (X : GE) : hF X 71 4 4 (fun r => .int (r 4)) := ⟨by decide, fun _ => ⟨_, rfl, rfl⟩⟩
theorem hP_71_goes (X : GE) : hPt X 71 4 4 := ⟨by decide, fun _ _ => ⟨_, rfl, Nat.le_of_ble_eq_true rfl, rfl⟩⟩
theorem hF_71_effort (X : GE) : hF X 71 4 5 (fun r => .int (r 5)) := ⟨by decide, fun _ => ⟨_, rfl, rfl⟩⟩
theorem hP_71_effort (X : GE) : hPt X 71 4 5 := ⟨by decide, fun _ _ => ⟨_, rfl, Nat.le_of_ble_eq_true rfl, rfl⟩⟩
theorem hO_71 (X : GE) : hO X 71 4 := ⟨by decide, fun _ => ⟨_, rfl⟩⟩
theorem hI_72 (X : GE) : hI X 72 24 := ⟨by decide, fun _ => rfl⟩
theorem hI_73 (X : GE) : hI X 73 24 := ⟨by decide, fun _ => rfl⟩
theorem hI_74 (X : GE) : hI X 74 90 := ⟨by decide, fun _ => rfl⟩
theorem hI_75 (X : GE) : hI X 75 8 := ⟨by decide, fun _ => rfl⟩
theorem hF_76_next (X : GE) : hF X 76 8 0 (fun r => .ref (X.2.2 77)) := ⟨by decide, fun _ => ⟨_, rfl, rfl⟩⟩
theorem hF_76_fewest (X : GE) : hF X 76 8 1 (fun r => .ref (X.2.2 78)) := ⟨by decide, fun _ => ⟨_, rfl, rfl⟩⟩
theorem hF_76_before (X : GE) : hF X 76 8 2 (fun r => .ref (X.2.2 79)) := ⟨by decide, fun _ => ⟨_, rfl, rfl⟩⟩
theorem hF_76_after (X : GE) : hF X 76 8 3 (fun r => .ref (X.2.2 80)) := ⟨by decide, fun _ => ⟨_, rfl, rfl⟩⟩
theorem hF_76_cueOf (X : GE) : hF X 76 8 4 (fun r => .ref (X.2.2 81)) := ⟨by decide, fun _ => ⟨_, rfl, rfl⟩⟩
theorem hF_76_inCue (X : GE) : hF X 76 8 5 (fun r => .ref (X.2.2 82)) := ⟨by decide, fun _ => ⟨_, rfl, rfl⟩⟩
theorem hF_76_cues (X : GE) : hF X 76 8 6 (fun r => .int (r 6)) := ⟨by decide, fun _ => ⟨_, rfl, rfl⟩⟩
theorem hP_76_cues (X : GE) : hPt X 76 8 6 := ⟨by decide, fun _ _ => ⟨_, rfl, Nat.le_of_ble_eq_true rfl, rfl⟩⟩
theorem hO_76 (X : GE) : hO X 76 8 := ⟨by decide, fun _ => ⟨_, rfl⟩⟩
theorem hI_77 (X : GE) : hI X 77 32 := ⟨by decide, fun _ => rfl⟩
theorem hI_78 (X : GE) : hI X 78 32 := ⟨by decide, fun _ => rfl⟩
theorem hI_79 (X : GE) : hI X 79 8 := ⟨by decide, fun _ => rfl⟩
theorem hI_80 (X : GE) : hI X 80 8 := ⟨by decide, fun _ => rfl⟩
theorem hI_81 (X : GE) : hI X 81 5 := ⟨by decide, fun _ => rfl⟩
theorem hI_82 (X : GE) : hI X 82 5 := ⟨by decide, fun _ => rfl⟩
theorem hF_83_fault (X : GE) : hF X 83 10 0 (fun r => .int (r 0)) := ⟨by decide, fun _ => ⟨_, rfl, rfl⟩⟩
theorem hP_83_fault (X : GE) : hPt X 83 10 0 := ⟨by decide, fun _ _ => ⟨_, rfl, Nat.le_of_ble_eq_true rfl, rfl⟩⟩
theorem hF_83_trace (X : GE) : hF X 83 10 1 (fun r => .int (r 1)) := ⟨by decide, fun _ => ⟨_, rfl, rfl⟩⟩
theorem hP_83_trace (X : GE) : hPt X 83 10 1 := ⟨by decide, fun _ _ => ⟨_, rfl, Nat.le_of_ble_eq_true rfl, rfl⟩⟩
theorem hF_83_sorts (X : GE) : hF X 83 10 2 (fun r => .ref (X.2.2 84)) := ⟨by decide, fun _ => ⟨_, rfl, rfl⟩⟩
theorem hF_83_sheetLong (X : GE) : hF X 83 10 3 (fun r => .ref (X.2.2 85)) := ⟨by decide, fun _ => ⟨_, rfl, rfl⟩⟩
theorem hF_83_cells (X : GE) : hF X 83 10 4 (fun r => .ref (X.2.2 86)) := ⟨by decide, fun _ => ⟨_, rfl, rfl⟩⟩
theorem hF_83_battens (X : GE) : hF X 83 10 5 (fun r => .int (r 5)) := ⟨by decide, fun _ => ⟨_, rfl, rfl⟩⟩
theorem hP_83_battens (X : GE) : hPt X 83 10 5 := ⟨by decide, fun _ _ => ⟨_, rfl, Nat.le_of_ble_eq_true rfl, rfl⟩⟩
theorem hF_83_hands (X : GE) : hF X 83 10 6 (fun r => .int (r 6)) := ⟨by decide, fun _ => ⟨_, rfl, rfl⟩⟩
theorem hP_83_hands (X : GE) : hPt X 83 10 6 := ⟨by decide, fun _ _ => ⟨_, rfl, Nat.le_of_ble_eq_true rfl, rfl⟩⟩
theorem hF_83_trimNow (X : GE) : hF X 83 10 7 (fun r => .int (r 7)) := ⟨by decide, fun _ => ⟨_, rfl, rfl⟩⟩
theorem hP_83_trimNow (X : GE) : hPt X 83 10 7 := ⟨by decide, fun _ _ => ⟨_, rfl, Nat.le_of_ble_eq_true rfl, rfl⟩⟩
theorem hF_83_stock (X : GE) : hF X 83 10 8 (fun r => .int (r 8)) := ⟨by decide, fun _ => ⟨_, rfl, rfl⟩⟩
theorem hP_83_stock (X : GE) : hPt X 83 10 8 := ⟨by decide, fun _ _ => ⟨_, rfl, Nat.le_of_ble_eq_true rfl, rfl⟩⟩
theorem hF_83_kind (X : GE) : hF X 83 10 9 (fun r => .ref (X.2.2 87)) := ⟨by decide, fun _ => ⟨_, rfl, rfl⟩⟩
theorem hF_83_load (X : GE) : hF X 83 10 10 (fun r => .ref (X.2.2 88)) := ⟨by decide, fun _ => ⟨_, rfl, rfl⟩⟩
theorem hF_83_bricks (X : GE) : hF X 83 10 11 (fun r => .ref (X.2.2 89)) := ⟨by decide, fun _ => ⟨_, rfl, rfl⟩⟩
theorem hF_83_height (X : GE) : hF X 83 10 12 (fun r => .ref (X.2.2 90)) := ⟨by decide, fun _ => ⟨_, rfl, rfl⟩⟩
theorem hF_83_drop (X : GE) : hF X 83 10 13 (fun r => .ref (X.2.2 91)) := ⟨by decide, fun _ => ⟨_, rfl, rfl⟩⟩
theorem hF_83_at (X : GE) : hF X 83 10 14 (fun r => .int (r 14)) := ⟨by decide, fun _ => ⟨_, rfl, rfl⟩⟩
theorem hP_83_at (X : GE) : hPt X 83 10 14 := ⟨by decide, fun _ _ => ⟨_, rfl, Nat.le_of_ble_eq_true rfl, rfl⟩⟩
theorem hF_83_readHands (X : GE) : hF X 83 10 15 (fun r => .int (r 15)) := ⟨by decide, fun _ => ⟨_, rfl, rfl⟩⟩
theorem hP_83_readHands (X : GE) : hPt X 83 10 15 := ⟨by decide, fun _ _ => ⟨_, rfl, Nat.le_of_ble_eq_true rfl, rfl⟩⟩
theorem hF_83_readTrim (X : GE) : hF X 83 10 16 (fun r => .int (r 16)) := ⟨by decide, fun _ => ⟨_, rfl, rfl⟩⟩
theorem hP_83_readTrim (X : GE) : hPt X 83 10 16 := ⟨by decide, fun _ _ => ⟨_, rfl, Nat.le_of_ble_eq_true rfl, rfl⟩⟩
theorem hF_83_readStock (X : GE) : hF X 83 10 17 (fun r => .int (r 17)) := ⟨by decide, fun _ => ⟨_, rfl, rfl⟩⟩
theorem hP_83_readStock (X : GE) : hPt X 83 10 17 := ⟨by decide, fun _ _ => ⟨_, rfl, Nat.le_of_ble_eq_true rfl, rfl⟩⟩
theorem hF_83_readBattens (X : GE) : hF X 83 10 18 (fun r => .int (r 18)) := ⟨by decide, fun _ => ⟨_, rfl, rfl⟩⟩
theorem hP_83_readBattens (X : GE) : hPt X 83 10 18 := ⟨by decide, fun _ _ => ⟨_, rfl, Nat.le_of_ble_eq_true rfl, rfl⟩⟩
theorem hF_83_read (X : GE) : hF X 83 10 19 (fun r => .ref (X.2.2 92)) := ⟨by decide, fun _ => ⟨_, rfl, rfl⟩⟩
theorem hF_83_goal (X : GE) : hF X 83 10 20 (fun r => .ref (X.2.2 93)) := ⟨by decide, fun _ => ⟨_, rfl, rfl⟩⟩
theorem hF_83_known (X : GE) : hF X 83 10 21 (fun r => .int (r 21)) := ⟨by decide, fun _ => ⟨_, rfl, rfl⟩⟩
theorem hP_83_known (X : GE) : hPt X 83 10 21 := ⟨by decide, fun _ _ => ⟨_, rfl, Nat.le_of_ble_eq_true rfl, rfl⟩⟩
theorem hF_83_before (X : GE) : hF X 83 10 22 (fun r => .ref (X.2.2 94)) := ⟨by decide, fun _ => ⟨_, rfl, rfl⟩⟩
theorem hF_83_isKept (X : GE) : hF X 83 10 23 (fun r => .ref (X.2.2 95)) := ⟨by decide, fun _ => ⟨_, rfl, rfl⟩⟩
theorem hF_83_kept (X : GE) : hF X 83 10 24 (fun r => .ref (X.2.2 96)) := ⟨by decide, fun _ => ⟨_, rfl, rfl⟩⟩
theorem hF_83_keptHands (X : GE) : hF X 83 10 25 (fun r => .ref (X.2.2 97)) := ⟨by decide, fun _ => ⟨_, rfl, rfl⟩⟩
theorem hF_83_keptTrim (X : GE) : hF X 83 10 26 (fun r => .ref (X.2.2 98)) := ⟨by decide, fun _ => ⟨_, rfl, rfl⟩⟩
theorem hF_83_heightWas (X : GE) : hF X 83 10 27 (fun r => .ref (X.2.2 99)) := ⟨by decide, fun _ => ⟨_, rfl, rfl⟩⟩
theorem hF_83_allBeats (X : GE) : hF X 83 10 28 (fun r => .int (r 28)) := ⟨by decide, fun _ => ⟨_, rfl, rfl⟩⟩
theorem hP_83_allBeats (X : GE) : hPt X 83 10 28 := ⟨by decide, fun _ _ => ⟨_, rfl, Nat.le_of_ble_eq_true rfl, rfl⟩⟩
theorem hF_83_allEffort (X : GE) : hF X 83 10 29 (fun r => .int (r 29)) := ⟨by decide, fun _ => ⟨_, rfl, rfl⟩⟩
theorem hP_83_allEffort (X : GE) : hPt X 83 10 29 := ⟨by decide, fun _ _ => ⟨_, rfl, Nat.le_of_ble_eq_true rfl, rfl⟩⟩
theorem hF_83_picture (X : GE) : hF X 83 10 30 (fun r => .ref (X.2.2 100)) := ⟨by decide, fun _ => ⟨_, rfl, rfl⟩⟩
theorem hF_83_goMany (X : GE) : hF X 83 10 31 (fun r => .int (r 31)) := ⟨by decide, fun _ => ⟨_, rfl, rfl⟩⟩
theorem hP_83_goMany (X : GE) : hPt X 83 10 31 := ⟨by decide, fun _ _ => ⟨_, rfl, Nat.le_of_ble_eq_true rfl, rfl⟩⟩
theorem hF_83_goEffort (X : GE) : hF X 83 10 32 (fun r => .int (r 32)) := ⟨by decide, fun _ => ⟨_, rfl, rfl⟩⟩
theorem hP_83_goEffort (X : GE) : hPt X 83 10 32 := ⟨by decide, fun _ _ => ⟨_, rfl, Nat.le_of_ble_eq_true rfl, rfl⟩⟩
theorem hF_83_cueOf (X : GE) : hF X 83 10 33 (fun r => .ref (X.2.2 101)) := ⟨by decide, fun _ => ⟨_, rfl, rfl⟩⟩
theorem hF_83_splitted (X : GE) : hF X 83 10 34 (fun r => .ref (X.2.2 102)) := ⟨by decide, fun _ => ⟨_, rfl, rfl⟩⟩
theorem hF_83_readings (X : GE) : hF X 83 10 35 (fun r => .int (r 35)) := ⟨by decide, fun _ => ⟨_, rfl, rfl⟩⟩
theorem hP_83_readings (X : GE) : hPt X 83 10 35 := ⟨by decide, fun _ _ => ⟨_, rfl, Nat.le_of_ble_eq_true rfl, rfl⟩⟩
theorem hF_83_readWhich (X : GE) : hF X 83 10 36 (fun r => .ref (X.2.2 103)) := ⟨by decide, fun _ => ⟨_, rfl, rfl⟩⟩
theorem hF_83_readBy (X : GE) : hF X 83 10 37 (fun r => .ref (X.2.2 104)) := ⟨by decide, fun _ => ⟨_, rfl, rfl⟩⟩
theorem hF_83_readEffort (X : GE) : hF X 83 10 38 (fun r => .ref (X.2.2 105)) := ⟨by decide, fun _ => ⟨_, rfl, rfl⟩⟩
theorem hO_83 (X : GE) : hO X 83 10 := ⟨by decide, fun _ => ⟨_, rfl⟩⟩
theorem hI_84 (X : GE) : hI X 84 4 := ⟨by decide, fun _ => rfl⟩
theorem hI_85 (X : GE) : hI X 85 4 := ⟨by decide, fun _ => rfl⟩
theorem hI_86 (X : GE) : hI X 86 240 := ⟨by decide, fun _ => rfl⟩
theorem hI_87 (X : GE) : hI X 87 8 := ⟨by decide, fun _ => rfl⟩
theorem hI_88 (X : GE) : hI X 88 8 := ⟨by decide, fun _ => rfl⟩
theorem hI_89 (X : GE) : hI X 89 8 := ⟨by decide, fun _ => rfl⟩
theorem hI_90 (X : GE) : hI X 90 8 := ⟨by decide, fun _ => rfl⟩
theorem hI_91 (X : GE) : hI X 91 8 := ⟨by decide, fun _ => rfl⟩
theorem hI_92 (X : GE) : hI X 92 40 := ⟨by decide, fun _ => rfl⟩
theorem hI_93 (X : GE) : hI X 93 8 := ⟨by decide, fun _ => rfl⟩
theorem hI_94 (X : GE) : hI X 94 200 := ⟨by decide, fun _ => rfl⟩
theorem hZ_95 (X : GE) : hZ X 95 2 := ⟨by decide, fun _ => rfl⟩
theorem hI_96 (X : GE) : hI X 96 50 := ⟨by decide, fun _ => rfl⟩
theorem hI_97 (X : GE) : hI X 97 2 := ⟨by decide, fun _ => rfl⟩
theorem hI_98 (X : GE) : hI X 98 2 := ⟨by decide, fun _ => rfl⟩
theorem hI_99 (X : GE) : hI X 99 8 := ⟨by decide, fun _ => rfl⟩
theorem hI_100 (X : GE) : hI X 100 8 := ⟨by decide, fun _ => rfl⟩
theorem hI_101 (X : GE) : hI X 101 5 := ⟨by decide, fun _ => rfl⟩
theorem hI_102 (X : GE) : hI X 102 5 := ⟨by decide, fun _ => rfl⟩
theorem hI_103 (X : GE) : hI X 103 8 := ⟨by decide, fun _ => rfl⟩
theorem hI_104 (X : GE) : hI X 104 8 := ⟨by decide, fun _ => rfl⟩
theorem hI_105 (X : GE) : hI X 105 8 := ⟨by decide, fun _ => rfl⟩
def isSh (k : Nat) : Prop := k = 2 ∨ k = 4 ∨ k = 6 ∨ k = 8
def isRg (k : Nat) : Prop := k = 11 ∨ k = 15 ∨ k = 23 ∨ k = 29 ∨ k = 33 ∨ k = 37 ∨ k = 41 ∨ k = 45 ∨ k = 49 ∨ k = 53 ∨ k = 57
theorem hF_Sh_cells {X : GE} {k : Nat} (h : isSh k) : hF X k 7 0 (fun r => .ref (X.2.2 (k + 1))) := by
  rcases h with rfl | rfl | rfl | rfl <;> exact ⟨by decide, fun _ => ⟨_, rfl, rfl⟩⟩
theorem hI_Sh_cells {X : GE} {k : Nat} (h : isSh k) : hI X (k + 1) 60 := by
  rcases h with rfl | rfl | rfl | rfl <;> exact ⟨by decide, fun _ => rfl⟩
theorem hF_Sh_hasRow {X : GE} {k : Nat} (h : isSh k) : hF X k 7 1 (fun r => .int (r 1)) := by
  rcases h with rfl | rfl | rfl | rfl <;> exact ⟨by decide, fun _ => ⟨_, rfl, rfl⟩⟩
theorem hP_Sh_hasRow {X : GE} {k : Nat} (h : isSh k) : hPt X k 7 1 := by
  rcases h with rfl | rfl | rfl | rfl <;> exact ⟨by decide, fun _ _ => ⟨_, rfl, Nat.le_of_ble_eq_true rfl, rfl⟩⟩
theorem hF_Sh_lane {X : GE} {k : Nat} (h : isSh k) : hF X k 7 2 (fun r => .int (r 2)) := by
  rcases h with rfl | rfl | rfl | rfl <;> exact ⟨by decide, fun _ => ⟨_, rfl, rfl⟩⟩
theorem hP_Sh_lane {X : GE} {k : Nat} (h : isSh k) : hPt X k 7 2 := by
  rcases h with rfl | rfl | rfl | rfl <;> exact ⟨by decide, fun _ _ => ⟨_, rfl, Nat.le_of_ble_eq_true rfl, rfl⟩⟩
theorem hF_Sh_length {X : GE} {k : Nat} (h : isSh k) : hF X k 7 3 (fun r => .int (r 3)) := by
  rcases h with rfl | rfl | rfl | rfl <;> exact ⟨by decide, fun _ => ⟨_, rfl, rfl⟩⟩
theorem hP_Sh_length {X : GE} {k : Nat} (h : isSh k) : hPt X k 7 3 := by
  rcases h with rfl | rfl | rfl | rfl <;> exact ⟨by decide, fun _ _ => ⟨_, rfl, Nat.le_of_ble_eq_true rfl, rfl⟩⟩
theorem hO_Sh {X : GE} {k : Nat} (h : isSh k) : hO X k 7 := by
  rcases h with rfl | rfl | rfl | rfl <;> exact ⟨by decide, fun _ => ⟨_, rfl⟩⟩
theorem hF_Rg_load {X : GE} {k : Nat} (h : isRg k) : hF X k 6 0 (fun r => .ref (X.2.2 (k + 1))) := by
  rcases h with rfl | rfl | rfl | rfl | rfl | rfl | rfl | rfl | rfl | rfl | rfl <;> exact ⟨by decide, fun _ => ⟨_, rfl, rfl⟩⟩
theorem hI_Rg_load {X : GE} {k : Nat} (h : isRg k) : hI X (k + 1) 8 := by
  rcases h with rfl | rfl | rfl | rfl | rfl | rfl | rfl | rfl | rfl | rfl | rfl <;> exact ⟨by decide, fun _ => rfl⟩
theorem hF_Rg_bricks {X : GE} {k : Nat} (h : isRg k) : hF X k 6 1 (fun r => .ref (X.2.2 (k + 2))) := by
  rcases h with rfl | rfl | rfl | rfl | rfl | rfl | rfl | rfl | rfl | rfl | rfl <;> exact ⟨by decide, fun _ => ⟨_, rfl, rfl⟩⟩
theorem hI_Rg_bricks {X : GE} {k : Nat} (h : isRg k) : hI X (k + 2) 8 := by
  rcases h with rfl | rfl | rfl | rfl | rfl | rfl | rfl | rfl | rfl | rfl | rfl <;> exact ⟨by decide, fun _ => rfl⟩
theorem hF_Rg_height {X : GE} {k : Nat} (h : isRg k) : hF X k 6 2 (fun r => .ref (X.2.2 (k + 3))) := by
  rcases h with rfl | rfl | rfl | rfl | rfl | rfl | rfl | rfl | rfl | rfl | rfl <;> exact ⟨by decide, fun _ => ⟨_, rfl, rfl⟩⟩
theorem hI_Rg_height {X : GE} {k : Nat} (h : isRg k) : hI X (k + 3) 8 := by
  rcases h with rfl | rfl | rfl | rfl | rfl | rfl | rfl | rfl | rfl | rfl | rfl <;> exact ⟨by decide, fun _ => rfl⟩
theorem hF_Rg_stock {X : GE} {k : Nat} (h : isRg k) : hF X k 6 3 (fun r => .int (r 3)) := by
  rcases h with rfl | rfl | rfl | rfl | rfl | rfl | rfl | rfl | rfl | rfl | rfl <;> exact ⟨by decide, fun _ => ⟨_, rfl, rfl⟩⟩
theorem hP_Rg_stock {X : GE} {k : Nat} (h : isRg k) : hPt X k 6 3 := by
  rcases h with rfl | rfl | rfl | rfl | rfl | rfl | rfl | rfl | rfl | rfl | rfl <;> exact ⟨by decide, fun _ _ => ⟨_, rfl, Nat.le_of_ble_eq_true rfl, rfl⟩⟩
theorem hF_Rg_hands {X : GE} {k : Nat} (h : isRg k) : hF X k 6 4 (fun r => .int (r 4)) := by
  rcases h with rfl | rfl | rfl | rfl | rfl | rfl | rfl | rfl | rfl | rfl | rfl <;> exact ⟨by decide, fun _ => ⟨_, rfl, rfl⟩⟩
theorem hP_Rg_hands {X : GE} {k : Nat} (h : isRg k) : hPt X k 6 4 := by
  rcases h with rfl | rfl | rfl | rfl | rfl | rfl | rfl | rfl | rfl | rfl | rfl <;> exact ⟨by decide, fun _ _ => ⟨_, rfl, Nat.le_of_ble_eq_true rfl, rfl⟩⟩
theorem hF_Rg_trim {X : GE} {k : Nat} (h : isRg k) : hF X k 6 5 (fun r => .int (r 5)) := by
  rcases h with rfl | rfl | rfl | rfl | rfl | rfl | rfl | rfl | rfl | rfl | rfl <;> exact ⟨by decide, fun _ => ⟨_, rfl, rfl⟩⟩
theorem hP_Rg_trim {X : GE} {k : Nat} (h : isRg k) : hPt X k 6 5 := by
  rcases h with rfl | rfl | rfl | rfl | rfl | rfl | rfl | rfl | rfl | rfl | rfl <;> exact ⟨by decide, fun _ _ => ⟨_, rfl, Nat.le_of_ble_eq_true rfl, rfl⟩⟩
theorem hO_Rg {X : GE} {k : Nat} (h : isRg k) : hO X k 6 := by
  rcases h with rfl | rfl | rfl | rfl | rfl | rfl | rfl | rfl | rfl | rfl | rfl <;> exact ⟨by decide, fun _ => ⟨_, rfl⟩⟩
theorem isSh_at {i : Int32} (h : ib i 4 = true) : isSh (2 + 2 * i.toNatClampNeg) := by
  have h := ib_lt h
  unfold isSh
  omega
theorem isRg_im {i : Int32} (h : ib i 2 = true) : isRg (11 + 4 * i.toNatClampNeg) := by
  have h := ib_lt h
  unfold isRg
  omega
theorem isRg_ps {i : Int32} (h : ib i 8 = true) : isRg (29 + 4 * i.toNatClampNeg) := by
  have h := ib_lt h
  unfold isRg
  omega
theorem isRg_now : isRg 23 := by unfold isRg; omega
-- what a method's words say of its fields and of Math
def MF (Ts : List Cond) (own : String) (index ci j : Nat) : Prop := ∃ (C : String) (T : u_T) (N : Nat), vwCl[ci]? = some (C, T, N) ∧ j < N ∧ (∀ w ∈ u_ws C T N, w ∈ Ts) ∧ Cond.fieldLink own index (T j).1 (T j).2.1 (T j).2.2.1 ∈ Ts
def MP (Ts : List Cond) (own : String) (index ci j : Nat) (ty : FieldType) : Prop := ∃ (C : String) (T : u_T) (N : Nat) (ty0 : Nat → FieldType), vwCl[ci]? = some (C, T, N) ∧ j < N ∧ (∀ w ∈ u_ws C T N, w ∈ Ts) ∧ Cond.fieldLink own index (T j).1 (T j).2.1 (T j).2.2.1 ∈ Ts ∧ (∀ k, k < N → parseFieldDescriptor (T k).2.2.1 = some (ty0 k)) ∧ (∀ a, a < N → ∀ b, b < N → a ≠ b → (T a).2.1 ≠ (T b).2.1) ∧ (T j).2.2.2 = false ∧ parseFieldDescriptor (T j).2.2.1 = some ty
section GV
variable {p : Program} {l : Launch} {e : Env} {R : Room} {s : State} {m : MethodId} {args : Array Value} {below : List Frame} {meth : Method} {c : Code} {Q : State → Prop} {cc : ByteArray} {nL : Nat} {Ts : List Cond} {own : String} {ret : Option FieldType} {X : GE} {M : MM} {lv : List (Nat × Value)} {st : List Value}
theorem gv_sub {pc : Nat} {lv' : List (Nat × Value)} (ks : List Nat) (hs : lv_pick lv ks = lv') (k : V p l e R s m args below meth c nL X Q M pc lv' st) : V p l e R s m args below meth c nL X Q M pc lv st := fun H locs ls hG hl => k H locs ls hG (lv_sub hl ks hs)
theorem gv_iconst (pc : Nat) (S : CX p s m args meth c cc nL Ts own ret X) {n : Int} (v : Int32) (hdg : decode cc pc = .ok (.iconst n, 1)) (hv : Int32.ofInt n = v) (k : V p l e R s m args below meth c nL X Q M (pc + 1) lv (.int v :: st)) : V p l e R s m args below meth c nL X Q M pc lv st := fun H locs ls hG hl => lv_iconst S.1.1 S.1.2.1 hdg hv (k H locs ls hG hl)
theorem gv_bipush (pc : Nat) (S : CX p s m args meth c cc nL Ts own ret X) {n : Int} (v : Int32) (hdg : decode cc pc = .ok (.bipush n, 2)) (hv : (Int8.ofInt n).toInt32 = v) (k : V p l e R s m args below meth c nL X Q M (pc + 2) lv (.int v :: st)) : V p l e R s m args below meth c nL X Q M pc lv st := fun H locs ls hG hl => lv_bipush S.1.1 S.1.2.1 hdg hv (k H locs ls hG hl)
theorem gv_sipush (pc : Nat) (S : CX p s m args meth c cc nL Ts own ret X) {n : Int} (v : Int32) (hdg : decode cc pc = .ok (.sipush n, 3)) (hv : (Int16.ofInt n).toInt32 = v) (k : V p l e R s m args below meth c nL X Q M (pc + 3) lv (.int v :: st)) : V p l e R s m args below meth c nL X Q M pc lv st := fun H locs ls hG hl => lv_sipush S.1.1 S.1.2.1 hdg hv (k H locs ls hG hl)
theorem gv_lconst (pc : Nat) (S : CX p s m args meth c cc nL Ts own ret X) {n : Fin 2} (v : Int64) (hdg : decode cc pc = .ok (.lconst n, 1)) (hv : Int64.ofNat (n : Nat) = v) (k : V p l e R s m args below meth c nL X Q M (pc + 1) lv (.long v :: st)) : V p l e R s m args below meth c nL X Q M pc lv st := fun H locs ls hG hl => lv_lconst S.1.1 S.1.2.1 hdg hv (k H locs ls hG hl)
theorem gv_ldc (pc : Nat) (S : CX p s m args meth c cc nL Ts own ret X) {index : Nat} {v : Int32} (hc : Cond.constant own index v ∈ Ts) (hdg : decode cc pc = .ok (.ldc index, 2)) (k : V p l e R s m args below meth c nL X Q M (pc + 2) lv (.int v :: st)) : V p l e R s m args below meth c nL X Q M pc lv st := fun H locs ls hG hl => lv_ldc S.1.1 S.1.2.1 S.1.2.2.2.1 (S.1.2.2.2.2 _ hc) hdg (k H locs ls hG hl)
theorem gv_ldc2 (pc : Nat) (S : CX p s m args meth c cc nL Ts own ret X) {index : Nat} {v : Int64} (hc : Cond.constantLong own index v ∈ Ts) (hdg : decode cc pc = .ok (.ldc2_w index, 3)) (k : V p l e R s m args below meth c nL X Q M (pc + 3) lv (.long v :: st)) : V p l e R s m args below meth c nL X Q M pc lv st := fun H locs ls hG hl => lv_ldc2 S.1.1 S.1.2.1 S.1.2.2.2.1 (S.1.2.2.2.2 _ hc) hdg (k H locs ls hG hl)
theorem gv_iload_n (pc : Nat) (S : CX p s m args meth c cc nL Ts own ret X) {k4 : Fin 4} (i k : Nat) {x : Int32} (hdg : decode cc pc = .ok (.iload_n k4, 1)) (hi : (k4 : Nat) = i) (hk : lv[k]? = some (i, .int x)) (kk : V p l e R s m args below meth c nL X Q M (pc + 1) lv (.int x :: st)) : V p l e R s m args below meth c nL X Q M pc lv st := fun H locs ls hG hl => lv_iload_n S.1.1 S.1.2.1 hdg hi (lv_at hl k hk) (kk H locs ls hG hl)
theorem gv_iload (pc : Nat) (S : CX p s m args meth c cc nL Ts own ret X) {i : Nat} (k : Nat) {x : Int32} (hdg : decode cc pc = .ok (.iload i, 2)) (hk : lv[k]? = some (i, .int x)) (kk : V p l e R s m args below meth c nL X Q M (pc + 2) lv (.int x :: st)) : V p l e R s m args below meth c nL X Q M pc lv st := fun H locs ls hG hl => lv_iload S.1.1 S.1.2.1 hdg (lv_at hl k hk) (kk H locs ls hG hl)
theorem gv_lload_n (pc : Nat) (S : CX p s m args meth c cc nL Ts own ret X) {k4 : Fin 4} (i k : Nat) {x : Int64} (hdg : decode cc pc = .ok (.lload_n k4, 1)) (hi : (k4 : Nat) = i) (hk : lv[k]? = some (i, .long x)) (kk : V p l e R s m args below meth c nL X Q M (pc + 1) lv (.long x :: st)) : V p l e R s m args below meth c nL X Q M pc lv st := fun H locs ls hG hl => lv_lload_n S.1.1 S.1.2.1 hdg hi (lv_at hl k hk) (kk H locs ls hG hl)
theorem gv_lload (pc : Nat) (S : CX p s m args meth c cc nL Ts own ret X) {i : Nat} (k : Nat) {x : Int64} (hdg : decode cc pc = .ok (.lload i, 2)) (hk : lv[k]? = some (i, .long x)) (kk : V p l e R s m args below meth c nL X Q M (pc + 2) lv (.long x :: st)) : V p l e R s m args below meth c nL X Q M pc lv st := fun H locs ls hG hl => lv_lload S.1.1 S.1.2.1 hdg (lv_at hl k hk) (kk H locs ls hG hl)
theorem gv_aload_n (pc : Nat) (S : CX p s m args meth c cc nL Ts own ret X) {k4 : Fin 4} (i k : Nat) {x : Nat} (hdg : decode cc pc = .ok (.aload_n k4, 1)) (hi : (k4 : Nat) = i) (hk : lv[k]? = some (i, .ref x)) (kk : V p l e R s m args below meth c nL X Q M (pc + 1) lv (.ref x :: st)) : V p l e R s m args below meth c nL X Q M pc lv st := fun H locs ls hG hl => lv_aload_n S.1.1 S.1.2.1 hdg hi (lv_at hl k hk) (kk H locs ls hG hl)
theorem gv_aload (pc : Nat) (S : CX p s m args meth c cc nL Ts own ret X) {i : Nat} (k : Nat) {x : Nat} (hdg : decode cc pc = .ok (.aload i, 2)) (hk : lv[k]? = some (i, .ref x)) (kk : V p l e R s m args below meth c nL X Q M (pc + 2) lv (.ref x :: st)) : V p l e R s m args below meth c nL X Q M pc lv st := fun H locs ls hG hl => lv_aload S.1.1 S.1.2.1 hdg (lv_at hl k hk) (kk H locs ls hG hl)
theorem gv_istore_n (pc : Nat) (S : CX p s m args meth c cc nL Ts own ret X) {k4 : Fin 4} (i : Nat) {x : Int32} {lv' : List (Nat × Value)} (hdg : decode cc pc = .ok (.istore_n k4, 1)) (hi : (k4 : Nat) = i) (hn : i < nL) (hs : (i, Value.int x) :: lv.filter (fun q => !(q.1 == i) && !(q.1 + 1 == i && q.2.category == 2)) = lv') (kk : V p l e R s m args below meth c nL X Q M (pc + 1) lv' st) : V p l e R s m args below meth c nL X Q M pc lv (.int x :: st) := fun H locs ls hG hl => lv_istore_n S.1.1 S.1.2.1 hdg hi hl hn hs (fun ls' hl' => kk H locs ls' hG hl')
theorem gv_istore (pc : Nat) (S : CX p s m args meth c cc nL Ts own ret X) {i : Nat} {x : Int32} {lv' : List (Nat × Value)} (hdg : decode cc pc = .ok (.istore i, 2)) (hn : i < nL) (hs : (i, Value.int x) :: lv.filter (fun q => !(q.1 == i) && !(q.1 + 1 == i && q.2.category == 2)) = lv') (kk : V p l e R s m args below meth c nL X Q M (pc + 2) lv' st) : V p l e R s m args below meth c nL X Q M pc lv (.int x :: st) := fun H locs ls hG hl => lv_istore S.1.1 S.1.2.1 hdg hl hn hs (fun ls' hl' => kk H locs ls' hG hl')
theorem gv_astore_n (pc : Nat) (S : CX p s m args meth c cc nL Ts own ret X) {k4 : Fin 4} (i : Nat) {x : Nat} {lv' : List (Nat × Value)} (hdg : decode cc pc = .ok (.astore_n k4, 1)) (hi : (k4 : Nat) = i) (hn : i < nL) (hs : (i, Value.ref x) :: lv.filter (fun q => !(q.1 == i) && !(q.1 + 1 == i && q.2.category == 2)) = lv') (kk : V p l e R s m args below meth c nL X Q M (pc + 1) lv' st) : V p l e R s m args below meth c nL X Q M pc lv (.ref x :: st) := fun H locs ls hG hl => lv_astore_n S.1.1 S.1.2.1 hdg hi hl hn hs (fun ls' hl' => kk H locs ls' hG hl')
theorem gv_astore (pc : Nat) (S : CX p s m args meth c cc nL Ts own ret X) {i : Nat} {x : Nat} {lv' : List (Nat × Value)} (hdg : decode cc pc = .ok (.astore i, 2)) (hn : i < nL) (hs : (i, Value.ref x) :: lv.filter (fun q => !(q.1 == i) && !(q.1 + 1 == i && q.2.category == 2)) = lv') (kk : V p l e R s m args below meth c nL X Q M (pc + 2) lv' st) : V p l e R s m args below meth c nL X Q M pc lv (.ref x :: st) := fun H locs ls hG hl => lv_astore S.1.1 S.1.2.1 hdg hl hn hs (fun ls' hl' => kk H locs ls' hG hl')
theorem gv_iinc (pc : Nat) (S : CX p s m args meth c cc nL Ts own ret X) {i : Nat} (k : Nat) {n : Int} {x : Int32} (v : Int32) {lv' : List (Nat × Value)} (hdg : decode cc pc = .ok (.iinc i n, 3)) (hk : lv[k]? = some (i, .int x)) (hv : x + Int32.ofInt n = v) (hn : i < nL) (hs : (i, Value.int v) :: lv.filter (fun q => !(q.1 == i) && !(q.1 + 1 == i && q.2.category == 2)) = lv') (kk : V p l e R s m args below meth c nL X Q M (pc + 3) lv' st) : V p l e R s m args below meth c nL X Q M pc lv st := fun H locs ls hG hl => lv_iinc S.1.1 S.1.2.1 hdg hl hk hv hn hs (fun ls' hl' => kk H locs ls' hG hl')
theorem gv_iadd (pc : Nat) (S : CX p s m args meth c cc nL Ts own ret X) {x y : Int32} (hdg : decode cc pc = .ok (.iadd, 1)) (k : V p l e R s m args below meth c nL X Q M (pc + 1) lv (.int (x + y) :: st)) : V p l e R s m args below meth c nL X Q M pc lv (.int y :: .int x :: st) := fun H locs ls hG hl => lv_iadd S.1.1 S.1.2.1 hdg (k H locs ls hG hl)
theorem gv_isub (pc : Nat) (S : CX p s m args meth c cc nL Ts own ret X) {x y : Int32} (hdg : decode cc pc = .ok (.isub, 1)) (k : V p l e R s m args below meth c nL X Q M (pc + 1) lv (.int (x - y) :: st)) : V p l e R s m args below meth c nL X Q M pc lv (.int y :: .int x :: st) := fun H locs ls hG hl => lv_isub S.1.1 S.1.2.1 hdg (k H locs ls hG hl)
theorem gv_imul (pc : Nat) (S : CX p s m args meth c cc nL Ts own ret X) {x y : Int32} (hdg : decode cc pc = .ok (.imul, 1)) (k : V p l e R s m args below meth c nL X Q M (pc + 1) lv (.int (x * y) :: st)) : V p l e R s m args below meth c nL X Q M pc lv (.int y :: .int x :: st) := fun H locs ls hG hl => lv_imul S.1.1 S.1.2.1 hdg (k H locs ls hG hl)
theorem gv_iand (pc : Nat) (S : CX p s m args meth c cc nL Ts own ret X) {x y : Int32} (hdg : decode cc pc = .ok (.iand, 1)) (k : V p l e R s m args below meth c nL X Q M (pc + 1) lv (.int (x &&& y) :: st)) : V p l e R s m args below meth c nL X Q M pc lv (.int y :: .int x :: st) := fun H locs ls hG hl => lv_iand S.1.1 S.1.2.1 hdg (k H locs ls hG hl)
theorem gv_ior (pc : Nat) (S : CX p s m args meth c cc nL Ts own ret X) {x y : Int32} (hdg : decode cc pc = .ok (.ior, 1)) (k : V p l e R s m args below meth c nL X Q M (pc + 1) lv (.int (x ||| y) :: st)) : V p l e R s m args below meth c nL X Q M pc lv (.int y :: .int x :: st) := fun H locs ls hG hl => lv_ior S.1.1 S.1.2.1 hdg (k H locs ls hG hl)
theorem gv_ishl (pc : Nat) (S : CX p s m args meth c cc nL Ts own ret X) {x y : Int32} (hdg : decode cc pc = .ok (.ishl, 1)) (k : V p l e R s m args below meth c nL X Q M (pc + 1) lv (.int (sl32 x y) :: st)) : V p l e R s m args below meth c nL X Q M pc lv (.int y :: .int x :: st) := fun H locs ls hG hl => lv_ishl S.1.1 S.1.2.1 hdg (k H locs ls hG hl)
theorem gv_ishr (pc : Nat) (S : CX p s m args meth c cc nL Ts own ret X) {x y : Int32} (hdg : decode cc pc = .ok (.ishr, 1)) (k : V p l e R s m args below meth c nL X Q M (pc + 1) lv (.int (sr32 x y) :: st)) : V p l e R s m args below meth c nL X Q M pc lv (.int y :: .int x :: st) := fun H locs ls hG hl => lv_ishr S.1.1 S.1.2.1 hdg (k H locs ls hG hl)
theorem gv_iushr (pc : Nat) (S : CX p s m args meth c cc nL Ts own ret X) {x y : Int32} (hdg : decode cc pc = .ok (.iushr, 1)) (k : V p l e R s m args below meth c nL X Q M (pc + 1) lv (.int (us32 x y) :: st)) : V p l e R s m args below meth c nL X Q M pc lv (.int y :: .int x :: st) := fun H locs ls hG hl => lv_iushr S.1.1 S.1.2.1 hdg rfl (k H locs ls hG hl)
theorem gv_idiv (pc : Nat) (S : CX p s m args meth c cc nL Ts own ret X) {x y : Int32} (hne : ¬ y = 0) (hdg : decode cc pc = .ok (.idiv, 1)) (k : V p l e R s m args below meth c nL X Q M (pc + 1) lv (.int (x / y) :: st)) : V p l e R s m args below meth c nL X Q M pc lv (.int y :: .int x :: st) := fun H locs ls hG hl => lv_idiv S.1.1 S.1.2.1 hdg hne (k H locs ls hG hl)
theorem gv_idivG (pc : Nat) (S : CX p s m args meth c cc nL Ts own ret X) {x y : Int32} {α : Type} {A : Option α} {z : α} (h : (if y = 0 then none else A) = some z) (hdg : decode cc pc = .ok (.idiv, 1)) (k : A = some z → V p l e R s m args below meth c nL X Q M (pc + 1) lv (.int (x / y) :: st)) : V p l e R s m args below meth c nL X Q M pc lv (.int y :: .int x :: st) := by
  by_cases hy : y = 0
  · rw [if_pos hy] at h; cases h
  · rw [if_neg hy] at h; exact gv_idiv pc S hy hdg (k h)
theorem gv_irem (pc : Nat) (S : CX p s m args meth c cc nL Ts own ret X) {x y : Int32} (hne : ¬ y = 0) (hdg : decode cc pc = .ok (.irem, 1)) (k : V p l e R s m args below meth c nL X Q M (pc + 1) lv (.int (rm32 x y) :: st)) : V p l e R s m args below meth c nL X Q M pc lv (.int y :: .int x :: st) := fun H locs ls hG hl => lv_irem S.1.1 S.1.2.1 hdg hne (k H locs ls hG hl)
theorem gv_iremG (pc : Nat) (S : CX p s m args meth c cc nL Ts own ret X) {x y : Int32} {α : Type} {A : Option α} {z : α} (h : (if y = 0 then none else A) = some z) (hdg : decode cc pc = .ok (.irem, 1)) (k : A = some z → V p l e R s m args below meth c nL X Q M (pc + 1) lv (.int (rm32 x y) :: st)) : V p l e R s m args below meth c nL X Q M pc lv (.int y :: .int x :: st) := by
  by_cases hy : y = 0
  · rw [if_pos hy] at h; cases h
  · rw [if_neg hy] at h; exact gv_irem pc S hy hdg (k h)
theorem gv_ldivG (pc : Nat) (S : CX p s m args meth c cc nL Ts own ret X) {x y : Int64} {α : Type} {A : Option α} {z : α} (h : (if y = 0 then none else A) = some z) (hdg : decode cc pc = .ok (.ldiv, 1)) (k : A = some z → V p l e R s m args below meth c nL X Q M (pc + 1) lv (.long (x / y) :: st)) : V p l e R s m args below meth c nL X Q M pc lv (.long y :: .long x :: st) := by
  by_cases hy : y = 0
  · rw [if_pos hy] at h; cases h
  · rw [if_neg hy] at h; exact fun H locs ls hG hl => lv_ldiv S.1.1 S.1.2.1 hdg hy (k h H locs ls hG hl)
theorem gv_lremG (pc : Nat) (S : CX p s m args meth c cc nL Ts own ret X) {x y : Int64} {α : Type} {A : Option α} {z : α} (h : (if y = 0 then none else A) = some z) (hdg : decode cc pc = .ok (.lrem, 1)) (k : A = some z → V p l e R s m args below meth c nL X Q M (pc + 1) lv (.long (rm64 x y) :: st)) : V p l e R s m args below meth c nL X Q M pc lv (.long y :: .long x :: st) := by
  by_cases hy : y = 0
  · rw [if_pos hy] at h; cases h
  · rw [if_neg hy] at h; exact fun H locs ls hG hl => lv_lrem S.1.1 S.1.2.1 hdg hy (k h H locs ls hG hl)
theorem gv_i2l (pc : Nat) (S : CX p s m args meth c cc nL Ts own ret X) {x : Int32} (hdg : decode cc pc = .ok (.i2l, 1)) (k : V p l e R s m args below meth c nL X Q M (pc + 1) lv (.long (x.toInt64) :: st)) : V p l e R s m args below meth c nL X Q M pc lv (.int x :: st) := fun H locs ls hG hl => lv_i2l S.1.1 S.1.2.1 hdg rfl (k H locs ls hG hl)
theorem gv_i2b (pc : Nat) (S : CX p s m args meth c cc nL Ts own ret X) {x : Int32} (hdg : decode cc pc = .ok (.i2b, 1)) (k : V p l e R s m args below meth c nL X Q M (pc + 1) lv (.int (ib8 x) :: st)) : V p l e R s m args below meth c nL X Q M pc lv (.int x :: st) := fun H locs ls hG hl => lv_i2b S.1.1 S.1.2.1 hdg rfl (k H locs ls hG hl)
theorem gv_i2s (pc : Nat) (S : CX p s m args meth c cc nL Ts own ret X) {x : Int32} (hdg : decode cc pc = .ok (.i2s, 1)) (k : V p l e R s m args below meth c nL X Q M (pc + 1) lv (.int (ib16 x) :: st)) : V p l e R s m args below meth c nL X Q M pc lv (.int x :: st) := fun H locs ls hG hl => lv_i2s S.1.1 S.1.2.1 hdg rfl (k H locs ls hG hl)
theorem gv_lshl (pc : Nat) (S : CX p s m args meth c cc nL Ts own ret X) {x : Int64} {y : Int32} (hdg : decode cc pc = .ok (.lshl, 1)) (k : V p l e R s m args below meth c nL X Q M (pc + 1) lv (.long (sl64 x y) :: st)) : V p l e R s m args below meth c nL X Q M pc lv (.int y :: .long x :: st) := fun H locs ls hG hl => lv_lshl S.1.1 S.1.2.1 hdg rfl (k H locs ls hG hl)
theorem gv_lcmp (pc : Nat) (S : CX p s m args meth c cc nL Ts own ret X) {x y : Int64} (hdg : decode cc pc = .ok (.lcmp, 1)) (k : V p l e R s m args below meth c nL X Q M (pc + 1) lv (.int (lg_cmp x y) :: st)) : V p l e R s m args below meth c nL X Q M pc lv (.long y :: .long x :: st) := fun H locs ls hG hl => W.lcmp S.1.1 S.1.2.1 hdg (k H locs ls hG hl)
theorem gv_lstore_n (pc : Nat) (S : CX p s m args meth c cc nL Ts own ret X) {k4 : Fin 4} (i : Nat) {x : Int64} {lv' : List (Nat × Value)} (hdg : decode cc pc = .ok (.lstore_n k4, 1)) (hi : (k4 : Nat) = i) (hn : i + 1 < nL) (hs : (i, Value.long x) :: lv.filter (fun q => !(q.1 == i) && (!(q.1 == i + 1) && !(q.1 + 1 == i && q.2.category == 2))) = lv') (kk : V p l e R s m args below meth c nL X Q M (pc + 1) lv' st) : V p l e R s m args below meth c nL X Q M pc lv (.long x :: st) := fun H locs ls hG hl => lv_lstore_n S.1.1 S.1.2.1 hdg hi hl hn hs (fun ls' hl' => kk H locs ls' hG hl')
theorem gv_lstore (pc : Nat) (S : CX p s m args meth c cc nL Ts own ret X) {i : Nat} {x : Int64} {lv' : List (Nat × Value)} (hdg : decode cc pc = .ok (.lstore i, 2)) (hn : i + 1 < nL) (hs : (i, Value.long x) :: lv.filter (fun q => !(q.1 == i) && (!(q.1 == i + 1) && !(q.1 + 1 == i && q.2.category == 2))) = lv') (kk : V p l e R s m args below meth c nL X Q M (pc + 2) lv' st) : V p l e R s m args below meth c nL X Q M pc lv (.long x :: st) := fun H locs ls hG hl => lv_lstore S.1.1 S.1.2.1 hdg hl hn hs (fun ls' hl' => kk H locs ls' hG hl')
theorem gv_dup (pc : Nat) (S : CX p s m args meth c cc nL Ts own ret X) {va : Value} (hdg : decode cc pc = .ok (.dup, 1)) (hva : va.category = 1) (kk : V p l e R s m args below meth c nL X Q M (pc + 1) lv (va :: va :: st)) : V p l e R s m args below meth c nL X Q M pc lv (va :: st) := fun H locs ls hG hl => lv_dup S.1.1 S.1.2.1 hdg hva (kk H locs ls hG hl)
theorem gv_dup2 (pc : Nat) (S : CX p s m args meth c cc nL Ts own ret X) {va vb : Value} (hdg : decode cc pc = .ok (.dup2, 1)) (hva : va.category = 1) (hvb : vb.category = 1) (kk : V p l e R s m args below meth c nL X Q M (pc + 1) lv (va :: vb :: va :: vb :: st)) : V p l e R s m args below meth c nL X Q M pc lv (va :: vb :: st) := fun H locs ls hG hl => lv_dup2_11 S.1.1 S.1.2.1 hdg hva hvb (kk H locs ls hG hl)
theorem gv_if_eq (pc : Nat) (S : CX p s m args meth c cc nL Ts own ret X) {x : Int32} {off : Int} (tgt : Nat) {α : Type} {A B o : α} (h : (if x = 0 then A else B) = o) (hdg : decode cc pc = .ok (.ifCond .eq off, 3)) (ht : (pc : Int) + off = (tgt : Int)) (kt : A = o → V p l e R s m args below meth c nL X Q M tgt lv st) (kf : B = o → V p l e R s m args below meth c nL X Q M (pc + 3) lv st) : V p l e R s m args below meth c nL X Q M pc lv (.int x :: st) := fun H locs ls hG hl => lv_if_eq S.1.1 S.1.2.1 hdg ht (fun q => kt ((if_pos q).symm.trans h) H locs ls hG hl) (fun q => kf ((if_neg q).symm.trans h) H locs ls hG hl)
theorem gv_icmp_eq (pc : Nat) (S : CX p s m args meth c cc nL Ts own ret X) {x y : Int32} {off : Int} (tgt : Nat) {α : Type} {A B o : α} (h : (if x = y then A else B) = o) (hdg : decode cc pc = .ok (.if_icmp .eq off, 3)) (ht : (pc : Int) + off = (tgt : Int)) (kt : A = o → V p l e R s m args below meth c nL X Q M tgt lv st) (kf : B = o → V p l e R s m args below meth c nL X Q M (pc + 3) lv st) : V p l e R s m args below meth c nL X Q M pc lv (.int y :: .int x :: st) := fun H locs ls hG hl => lv_icmp_eq S.1.1 S.1.2.1 hdg ht (fun q => kt ((if_pos q).symm.trans h) H locs ls hG hl) (fun q => kf ((if_neg q).symm.trans h) H locs ls hG hl)
theorem gv_if_ne (pc : Nat) (S : CX p s m args meth c cc nL Ts own ret X) {x : Int32} {off : Int} (tgt : Nat) {α : Type} {A B o : α} (h : (if x = 0 then A else B) = o) (hdg : decode cc pc = .ok (.ifCond .ne off, 3)) (ht : (pc : Int) + off = (tgt : Int)) (kt : B = o → V p l e R s m args below meth c nL X Q M tgt lv st) (kf : A = o → V p l e R s m args below meth c nL X Q M (pc + 3) lv st) : V p l e R s m args below meth c nL X Q M pc lv (.int x :: st) := fun H locs ls hG hl => lv_if_ne S.1.1 S.1.2.1 hdg ht (fun q => kt ((if_neg q).symm.trans h) H locs ls hG hl) (fun q => kf ((if_pos q).symm.trans h) H locs ls hG hl)
theorem gv_icmp_ne (pc : Nat) (S : CX p s m args meth c cc nL Ts own ret X) {x y : Int32} {off : Int} (tgt : Nat) {α : Type} {A B o : α} (h : (if x = y then A else B) = o) (hdg : decode cc pc = .ok (.if_icmp .ne off, 3)) (ht : (pc : Int) + off = (tgt : Int)) (kt : B = o → V p l e R s m args below meth c nL X Q M tgt lv st) (kf : A = o → V p l e R s m args below meth c nL X Q M (pc + 3) lv st) : V p l e R s m args below meth c nL X Q M pc lv (.int y :: .int x :: st) := fun H locs ls hG hl => lv_icmp_ne S.1.1 S.1.2.1 hdg ht (fun q => kt ((if_neg q).symm.trans h) H locs ls hG hl) (fun q => kf ((if_pos q).symm.trans h) H locs ls hG hl)
theorem gv_if_lt (pc : Nat) (S : CX p s m args meth c cc nL Ts own ret X) {x : Int32} {off : Int} (tgt : Nat) {α : Type} {A B o : α} (h : (if x < 0 then A else B) = o) (hdg : decode cc pc = .ok (.ifCond .lt off, 3)) (ht : (pc : Int) + off = (tgt : Int)) (kt : A = o → V p l e R s m args below meth c nL X Q M tgt lv st) (kf : B = o → V p l e R s m args below meth c nL X Q M (pc + 3) lv st) : V p l e R s m args below meth c nL X Q M pc lv (.int x :: st) := fun H locs ls hG hl => lv_if_lt S.1.1 S.1.2.1 hdg ht (fun q => kt ((if_pos q).symm.trans h) H locs ls hG hl) (fun q => kf ((if_neg q).symm.trans h) H locs ls hG hl)
theorem gv_icmp_lt (pc : Nat) (S : CX p s m args meth c cc nL Ts own ret X) {x y : Int32} {off : Int} (tgt : Nat) {α : Type} {A B o : α} (h : (if x < y then A else B) = o) (hdg : decode cc pc = .ok (.if_icmp .lt off, 3)) (ht : (pc : Int) + off = (tgt : Int)) (kt : A = o → V p l e R s m args below meth c nL X Q M tgt lv st) (kf : B = o → V p l e R s m args below meth c nL X Q M (pc + 3) lv st) : V p l e R s m args below meth c nL X Q M pc lv (.int y :: .int x :: st) := fun H locs ls hG hl => lv_icmp_lt S.1.1 S.1.2.1 hdg ht (fun q => kt ((if_pos q).symm.trans h) H locs ls hG hl) (fun q => kf ((if_neg q).symm.trans h) H locs ls hG hl)
theorem gv_if_ge (pc : Nat) (S : CX p s m args meth c cc nL Ts own ret X) {x : Int32} {off : Int} (tgt : Nat) {α : Type} {A B o : α} (h : (if 0 ≤ x then A else B) = o) (hdg : decode cc pc = .ok (.ifCond .ge off, 3)) (ht : (pc : Int) + off = (tgt : Int)) (kt : A = o → V p l e R s m args below meth c nL X Q M tgt lv st) (kf : B = o → V p l e R s m args below meth c nL X Q M (pc + 3) lv st) : V p l e R s m args below meth c nL X Q M pc lv (.int x :: st) := fun H locs ls hG hl => lv_if_ge S.1.1 S.1.2.1 hdg ht (fun q => kt ((if_pos q).symm.trans h) H locs ls hG hl) (fun q => kf ((if_neg q).symm.trans h) H locs ls hG hl)
theorem gv_icmp_ge (pc : Nat) (S : CX p s m args meth c cc nL Ts own ret X) {x y : Int32} {off : Int} (tgt : Nat) {α : Type} {A B o : α} (h : (if y ≤ x then A else B) = o) (hdg : decode cc pc = .ok (.if_icmp .ge off, 3)) (ht : (pc : Int) + off = (tgt : Int)) (kt : A = o → V p l e R s m args below meth c nL X Q M tgt lv st) (kf : B = o → V p l e R s m args below meth c nL X Q M (pc + 3) lv st) : V p l e R s m args below meth c nL X Q M pc lv (.int y :: .int x :: st) := fun H locs ls hG hl => lv_icmp_ge S.1.1 S.1.2.1 hdg ht (fun q => kt ((if_pos q).symm.trans h) H locs ls hG hl) (fun q => kf ((if_neg q).symm.trans h) H locs ls hG hl)
theorem gv_if_gt (pc : Nat) (S : CX p s m args meth c cc nL Ts own ret X) {x : Int32} {off : Int} (tgt : Nat) {α : Type} {A B o : α} (h : (if 0 < x then A else B) = o) (hdg : decode cc pc = .ok (.ifCond .gt off, 3)) (ht : (pc : Int) + off = (tgt : Int)) (kt : A = o → V p l e R s m args below meth c nL X Q M tgt lv st) (kf : B = o → V p l e R s m args below meth c nL X Q M (pc + 3) lv st) : V p l e R s m args below meth c nL X Q M pc lv (.int x :: st) := fun H locs ls hG hl => lv_if_gt S.1.1 S.1.2.1 hdg ht (fun q => kt ((if_pos q).symm.trans h) H locs ls hG hl) (fun q => kf ((if_neg q).symm.trans h) H locs ls hG hl)
theorem gv_icmp_gt (pc : Nat) (S : CX p s m args meth c cc nL Ts own ret X) {x y : Int32} {off : Int} (tgt : Nat) {α : Type} {A B o : α} (h : (if y < x then A else B) = o) (hdg : decode cc pc = .ok (.if_icmp .gt off, 3)) (ht : (pc : Int) + off = (tgt : Int)) (kt : A = o → V p l e R s m args below meth c nL X Q M tgt lv st) (kf : B = o → V p l e R s m args below meth c nL X Q M (pc + 3) lv st) : V p l e R s m args below meth c nL X Q M pc lv (.int y :: .int x :: st) := fun H locs ls hG hl => lv_icmp_gt S.1.1 S.1.2.1 hdg ht (fun q => kt ((if_pos q).symm.trans h) H locs ls hG hl) (fun q => kf ((if_neg q).symm.trans h) H locs ls hG hl)
theorem gv_if_le (pc : Nat) (S : CX p s m args meth c cc nL Ts own ret X) {x : Int32} {off : Int} (tgt : Nat) {α : Type} {A B o : α} (h : (if x ≤ 0 then A else B) = o) (hdg : decode cc pc = .ok (.ifCond .le off, 3)) (ht : (pc : Int) + off = (tgt : Int)) (kt : A = o → V p l e R s m args below meth c nL X Q M tgt lv st) (kf : B = o → V p l e R s m args below meth c nL X Q M (pc + 3) lv st) : V p l e R s m args below meth c nL X Q M pc lv (.int x :: st) := fun H locs ls hG hl => lv_if_le S.1.1 S.1.2.1 hdg ht (fun q => kt ((if_pos q).symm.trans h) H locs ls hG hl) (fun q => kf ((if_neg q).symm.trans h) H locs ls hG hl)
theorem gv_icmp_le (pc : Nat) (S : CX p s m args meth c cc nL Ts own ret X) {x y : Int32} {off : Int} (tgt : Nat) {α : Type} {A B o : α} (h : (if x ≤ y then A else B) = o) (hdg : decode cc pc = .ok (.if_icmp .le off, 3)) (ht : (pc : Int) + off = (tgt : Int)) (kt : A = o → V p l e R s m args below meth c nL X Q M tgt lv st) (kf : B = o → V p l e R s m args below meth c nL X Q M (pc + 3) lv st) : V p l e R s m args below meth c nL X Q M pc lv (.int y :: .int x :: st) := fun H locs ls hG hl => lv_icmp_le S.1.1 S.1.2.1 hdg ht (fun q => kt ((if_pos q).symm.trans h) H locs ls hG hl) (fun q => kf ((if_neg q).symm.trans h) H locs ls hG hl)
theorem gv_tabIn (pc : Nat) (S : CX p s m args meth c cc nL Ts own ret X) {dflt lo hi : Int} {offs : Array Int} {len : Nat} {x : Int32} {off : Int} (tgt : Nat) (hdg : decode cc pc = .ok (.tableswitch dflt lo hi offs, len)) (h1 : ¬ x.toInt < lo) (h2 : ¬ hi < x.toInt) (ho : offs[(x.toInt - lo).toNat]? = some off) (ht : (pc : Int) + off = (tgt : Int)) (k : V p l e R s m args below meth c nL X Q M tgt lv st) : V p l e R s m args below meth c nL X Q M pc lv (.int x :: st) := fun H locs ls hG hl => lv_tableIn S.1.1 S.1.2.1 hdg h1 h2 ho ht (k H locs ls hG hl)
theorem gv_tabOut (pc : Nat) (S : CX p s m args meth c cc nL Ts own ret X) {dflt lo hi : Int} {offs : Array Int} {len : Nat} {x : Int32} (tgt : Nat) (hdg : decode cc pc = .ok (.tableswitch dflt lo hi offs, len)) (h1 : x.toInt < lo ∨ hi < x.toInt) (ht : (pc : Int) + dflt = (tgt : Int)) (k : V p l e R s m args below meth c nL X Q M tgt lv st) : V p l e R s m args below meth c nL X Q M pc lv (.int x :: st) := fun H locs ls hG hl => lv_tableOut S.1.1 S.1.2.1 hdg h1 ht (k H locs ls hG hl)
theorem gv_lookup (pc : Nat) (S : CX p s m args meth c cc nL Ts own ret X) {dflt : Int} {ps : Array (Int × Int)} {len : Nat} {x : Int32} {off : Int} (tgt : Nat) (hdg : decode cc pc = .ok (.lookupswitch dflt ps, len)) (hp : (ps.toList.zip (ps.toList.drop 1)).all (fun (a, next) => a.1 < next.1) = true) (ho : Op.lookupswitch.offset ps.toList dflt x.toInt = off) (ht : (pc : Int) + off = (tgt : Int)) (k : V p l e R s m args below meth c nL X Q M tgt lv st) : V p l e R s m args below meth c nL X Q M pc lv (.int x :: st) := fun H locs ls hG hl => lv_lookup S.1.1 S.1.2.1 hdg hp ho ht (k H locs ls hG hl)
theorem gv_goto (pc : Nat) (S : CX p s m args meth c cc nL Ts own ret X) {off : Int} (tgt : Nat) (hdg : decode cc pc = .ok (.goto off, 3)) (ht : (pc : Int) + off = (tgt : Int)) (k : V p l e R s m args below meth c nL X Q M tgt lv st) : V p l e R s m args below meth c nL X Q M pc lv st := fun H locs ls hG hl => lv_goto S.1.1 S.1.2.1 hdg ht (k H locs ls hG hl)
theorem gv_get (pc : Nat) (S : CX p s m args meth c cc nL Ts own ret X) {index k ci j : Nat} {v : (Nat → Int32) → Value} (hf : hF X k ci j v) (mf : MF Ts own index ci j) (hdg : decode cc pc = .ok (.getfield index, 3)) (kk : V p l e R s m args below meth c nL X Q M (pc + 3) lv (v (M k) :: st)) : V p l e R s m args below meth c nL X Q M pc lv (.ref (X.2.2 k) :: st) := by
  intro H locs ls hG hl
  obtain ⟨C, T, N, hc, hj, hin, hlink⟩ := mf
  obtain ⟨fs, he, hv⟩ := hf.2 (M k)
  exact va_get S.1.1 S.1.2.1 S.1.2.2.2.2 hin S.1.2.2.2.1 S.2.2.2.1 hG.1.1 k (by rw [gW_get X M hf.1, he]) hc j hj (S.1.2.2.2.2 _ hlink) (fun _ h => h) hv hdg (kk H locs ls hG hl)
theorem gv_put (pc : Nat) (S : CX p s m args meth c cc nL Ts own ret X) {index k ci j : Nat} {ty : FieldType} {x : Int32} {α : Type} {F : MM → α} {o : α} (h : nm (up2 M k j x) F = o) (hf : hPt X k ci j) (mf : MP Ts own index ci j ty) (hn : narrow ty (.int x) = .int x) (hfit : fits ty (.int x) = true) (hdg : decode cc pc = .ok (.putfield index, 3)) (kk : ∀ M1 : MM, F M1 = o → V p l e R s m args below meth c nL X Q M1 (pc + 3) lv st) : V p l e R s m args below meth c nL X Q M pc lv (.int x :: .ref (X.2.2 k) :: st) := by
  intro H locs ls hG hl
  obtain ⟨C, T, N, ty0, hc, hj, hin, hlink, hty, hnm, hfin, hd⟩ := mf
  obtain ⟨fs, he, hlen, hs⟩ := hf.2 (M k) x
  refine va_put S.1.1 S.1.2.1 S.1.2.2.2.2 hin ty0 hty hnm S.1.2.2.2.1 S.2.2.2.1 hG.1.1 hG.1.2 hG.2 k (by rw [gW_get X M hf.1, he]) hc j hj (S.1.2.2.2.2 _ hlink) (fun _ h => h) hfin hd hn hfit hlen hdg (fun H1 locs1 hP hD hS => ?_)
  rw [← hs, gW_set] at hP hD
  exact kk (up2 M k j x) h H1 locs1 ls ⟨⟨hP, hD⟩, hS⟩ hl
theorem gv_iald (pc : Nat) (S : CX p s m args meth c cc nL Ts own ret X) {k n : Nat} {i : Int32} {α : Type} {A : Option α} {z : α} (h : (if ib i n = true then A else none) = some z) (hf : hI X k n) (hdg : decode cc pc = .ok (.iaload, 1)) (kk : A = some z → V p l e R s m args below meth c nL X Q M (pc + 1) lv (.int (M k i.toNatClampNeg) :: st)) : V p l e R s m args below meth c nL X Q M pc lv (.int i :: .ref (X.2.2 k) :: st) := by
  intro H locs ls hG hl
  by_cases hi : ib i n = true
  · rw [if_pos hi] at h
    exact va_iald S.1.1 S.1.2.1 S.2.2.2.1 hG.1.1 k 0 (by rw [gW_get X M hf.1, hf.2]) rfl (ib_in hi) hdg (kk h H locs ls hG hl)
  · rw [if_neg hi] at h
    cases h
theorem gv_zald (pc : Nat) (S : CX p s m args meth c cc nL Ts own ret X) {k n : Nat} {i : Int32} {α : Type} {A : Option α} {z : α} (h : (if ib i n = true then A else none) = some z) (hf : hZ X k n) (hdg : decode cc pc = .ok (.baload, 1)) (kk : A = some z → V p l e R s m args below meth c nL X Q M (pc + 1) lv (.int (M k i.toNatClampNeg) :: st)) : V p l e R s m args below meth c nL X Q M pc lv (.int i :: .ref (X.2.2 k) :: st) := by
  intro H locs ls hG hl
  by_cases hi : ib i n = true
  · rw [if_pos hi] at h
    exact va_zald S.1.1 S.1.2.1 S.2.2.2.1 hG.1.1 k 1 (by rw [gW_get X M hf.1, hf.2]) rfl (ib_in hi) hdg (kk h H locs ls hG hl)
  · rw [if_neg hi] at h
    cases h
theorem gv_aald (pc : Nat) (S : CX p s m args meth c cc nL Ts own ret X) {k n t : Nat} {g : Nat → Nat} {C : String} {i : Int32} {α : Type} {A : Option α} {z : α} (h : (if ib i n = true then A else none) = some z) (hf : hR X k n t g) (ht : (gTy X)[t]? = some (X.2.1 t, .object C)) (hdg : decode cc pc = .ok (.aaload, 1)) (kk : ib i n = true → A = some z → V p l e R s m args below meth c nL X Q M (pc + 1) lv (.ref (X.2.2 (g i.toNatClampNeg)) :: st)) : V p l e R s m args below meth c nL X Q M pc lv (.int i :: .ref (X.2.2 k) :: st) := by
  intro H locs ls hG hl
  by_cases hi : ib i n = true
  · rw [if_pos hi] at h
    exact va_aldq (f := fun i => some (X.2.2 (g i))) S.1.1 S.1.2.1 S.2.2.2.1 hG.1.1 k t (by rw [gW_get X M hf.1, hf.2]) ht (ib_in hi) hdg (kk hi h H locs ls hG hl)
  · rw [if_neg hi] at h
    cases h
theorem gv_iast (pc : Nat) (S : CX p s m args meth c cc nL Ts own ret X) {k n : Nat} {i x : Int32} {α : Type} {F : MM → Option α} {z : α} (h : (if ib i n = true then nm (up2 M k i.toNatClampNeg x) F else none) = some z) (hf : hI X k n) (hdg : decode cc pc = .ok (.iastore, 1)) (kk : ∀ M1 : MM, F M1 = some z → V p l e R s m args below meth c nL X Q M1 (pc + 1) lv st) : V p l e R s m args below meth c nL X Q M pc lv (.int x :: .int i :: .ref (X.2.2 k) :: st) := by
  intro H locs ls hG hl
  by_cases hi : ib i n = true
  · rw [if_pos hi] at h
    refine va_iast S.1.1 S.1.2.1 S.2.2.2.1 hG.1.1 hG.1.2 hG.2 k 0 (by rw [gW_get X M hf.1, hf.2]) rfl (ib_in hi) hdg (fun H1 locs1 hP hD hS => ?_)
    rw [← hf.2, gW_set] at hP hD
    exact kk (up2 M k i.toNatClampNeg x) h H1 locs1 ls ⟨⟨hP, hD⟩, hS⟩ hl
  · rw [if_neg hi] at h
    cases h
theorem gv_zast (pc : Nat) (S : CX p s m args meth c cc nL Ts own ret X) {k n : Nat} {i x : Int32} {α : Type} {F : MM → Option α} {z : α} (h : (if ib i n = true then nm (up2 M k i.toNatClampNeg x) F else none) = some z) (hx : vp_nar .boolean x = x) (hf : hZ X k n) (hdg : decode cc pc = .ok (.bastore, 1)) (kk : ∀ M1 : MM, F M1 = some z → V p l e R s m args below meth c nL X Q M1 (pc + 1) lv st) : V p l e R s m args below meth c nL X Q M pc lv (.int x :: .int i :: .ref (X.2.2 k) :: st) := by
  intro H locs ls hG hl
  by_cases hi : ib i n = true
  · rw [if_pos hi] at h
    refine va_zast S.1.1 S.1.2.1 S.2.2.2.1 hG.1.1 hG.1.2 hG.2 k 1 (by rw [gW_get X M hf.1, hf.2]) rfl (ib_in hi) hdg (fun H1 locs1 hP hD hS => ?_)
    rw [hx, ← hf.2, gW_set] at hP hD
    exact kk (up2 M k i.toNatClampNeg x) h H1 locs1 ls ⟨⟨hP, hD⟩, hS⟩ hl
  · rw [if_neg hi] at h
    cases h
theorem gv_copy (pc : Nat) (S : CX p s m args meth c cc nL Ts own ret X) {k0 k1 n0 n1 index : Nat} {sp dp n : Int32} {α : Type} {F : MM → Option α} {z : α} (h : (if cpok sp dp n n0 n1 = true then nm (upR M k1 (va_cpy (M k0) (M k1) sp.toNatClampNeg dp.toNatClampNeg n.toNatClampNeg)) F else none) = some z) (hf0 : hI X k0 n0) (hf1 : hI X k1 n1) (hlink : Cond.methodLink own index arraycopyName ∈ Ts) (hnat : Cond.native arraycopyName ∈ Ts) (hstat : Cond.static arraycopyName ∈ Ts) (hini : Cond.initialized "java/lang/System" ∈ Ts)
    (hframes : 1 ≤ R.frames) (hlocals : (st.map fun v => v.category).sum + (nativeFrameWords "java/lang/System" "arraycopy" 5 + 11) ≤ R.locals) (hdg : decode cc pc = .ok (.invokestatic index, 3)) (kk : ∀ M1 : MM, F M1 = some z → V p l e R s m args below meth c nL X Q M1 (pc + 3) lv st) : V p l e R s m args below meth c nL X Q M pc lv (.int n :: .int dp :: .ref (X.2.2 k1) :: .int sp :: .ref (X.2.2 k0) :: st) := by
  intro H locs ls hG hl
  by_cases hi : cpok sp dp n n0 n1 = true
  · rw [if_pos hi] at h
    have hi : (((¬ sp < 0 ∧ ¬ dp < 0) ∧ ¬ n < 0) ∧ sp.toNatClampNeg + n.toNatClampNeg ≤ n0) ∧ dp.toNatClampNeg + n.toNatClampNeg ≤ n1 := by simpa [cpok] using hi
    obtain ⟨⟨⟨⟨h1, h2⟩, h3⟩, h4⟩, h5⟩ := hi
    refine va_copyi S.1.1 S.1.2.1 (S.1.2.2.1.trans hl.1.symm) S.1.2.2.2.1 (S.1.2.2.2.2 _ hlink) (S.1.2.2.2.2 _ hnat) (S.1.2.2.2.2 _ hstat) (S.1.2.2.2.2 _ hini) S.2.2.2.1 hG.1.1 hG.1.2 hG.2 k0 k1 0 0 (ty := .int) (by rw [gW_get X M hf0.1, hf0.2]) (by rw [gW_get X M hf1.1, hf1.2]) rfl rfl rfl h1 h2 h3 h4 h5 (fun _ _ => rfl) hframes hlocals hdg (fun H1 locs1 hP hD hS => ?_)
    rw [← hf1.2, gW_set] at hP hD
    exact kk _ h H1 locs1 ls ⟨⟨hP, hD⟩, hS⟩ hl
  · rw [if_neg hi] at h
    cases h
theorem gv_mmax (pc : Nat) (S : CX p s m args meth c cc nL Ts own ret X) {index : Nat} {x y : Int32} (hlink : Cond.methodLink own index Lib.Math.max.name ∈ Ts) (hstat : Cond.static Lib.Math.max.name ∈ Ts) (hini : Cond.initialized "java/lang/Math" ∈ Ts) (hcode : Cond.code Lib.Math.max.name Lib.Math.max.code 2 (some .int) ∈ Ts) (hframes : 1 ≤ R.frames) (hlocals : (st.map fun v => v.category).sum + 13 ≤ R.locals) (hdg : decode cc pc = .ok (.invokestatic index, 3)) (kk : V p l e R s m args below meth c nL X Q M (pc + 3) lv (.int (mx32 x y) :: st)) : V p l e R s m args below meth c nL X Q M pc lv (.int y :: .int x :: st) := fun H locs ls hG hl => va_mmax S.1.1 S.1.2.1 (S.1.2.2.1.trans hl.1.symm) S.1.2.2.2.1 (S.1.2.2.2.2 _ hlink) (S.1.2.2.2.2 _ hstat) (S.1.2.2.2.2 _ hini) (S.1.2.2.2.2 _ hcode) hframes hlocals (Nat.zero_le _) (Nat.zero_le _) hdg (kk H locs ls hG hl)
theorem gv_mmin (pc : Nat) (S : CX p s m args meth c cc nL Ts own ret X) {index : Nat} {x y : Int32} (hlink : Cond.methodLink own index Lib.Math.min.name ∈ Ts) (hstat : Cond.static Lib.Math.min.name ∈ Ts) (hini : Cond.initialized "java/lang/Math" ∈ Ts) (hcode : Cond.code Lib.Math.min.name Lib.Math.min.code 2 (some .int) ∈ Ts) (hframes : 1 ≤ R.frames) (hlocals : (st.map fun v => v.category).sum + 13 ≤ R.locals) (hdg : decode cc pc = .ok (.invokestatic index, 3)) (kk : V p l e R s m args below meth c nL X Q M (pc + 3) lv (.int (mn32 x y) :: st)) : V p l e R s m args below meth c nL X Q M pc lv (.int y :: .int x :: st) := fun H locs ls hG hl => va_mmin S.1.1 S.1.2.1 (S.1.2.2.1.trans hl.1.symm) S.1.2.2.2.1 (S.1.2.2.2.2 _ hlink) (S.1.2.2.2.2 _ hstat) (S.1.2.2.2.2 _ hini) (S.1.2.2.2.2 _ hcode) hframes hlocals (Nat.zero_le _) (Nat.zero_le _) hdg (kk H locs ls hG hl)
theorem gv_mabs (pc : Nat) (S : CX p s m args meth c cc nL Ts own ret X) {index : Nat} {x : Int32} (hlink : Cond.methodLink own index Lib.Math.abs.name ∈ Ts) (hstat : Cond.static Lib.Math.abs.name ∈ Ts) (hini : Cond.initialized "java/lang/Math" ∈ Ts) (hcode : Cond.code Lib.Math.abs.name Lib.Math.abs.code 1 (some .int) ∈ Ts) (hframes : 1 ≤ R.frames) (hlocals : (st.map fun v => v.category).sum + 13 ≤ R.locals) (hdg : decode cc pc = .ok (.invokestatic index, 3)) (kk : V p l e R s m args below meth c nL X Q M (pc + 3) lv (.int (ab32 x) :: st)) : V p l e R s m args below meth c nL X Q M pc lv (.int x :: st) := fun H locs ls hG hl => va_mabs S.1.1 S.1.2.1 (S.1.2.2.1.trans hl.1.symm) S.1.2.2.2.1 (S.1.2.2.2.2 _ hlink) (S.1.2.2.2.2 _ hstat) (S.1.2.2.2.2 _ hini) (S.1.2.2.2.2 _ hcode) hframes hlocals (Nat.zero_le _) (Nat.zero_le _) hdg (kk H locs ls hG hl)
-- names for values
theorem gv_nmi {pc : Nat} {x : Int32} {α : Type} {F : Int32 → α} {o : α} (h : nm x F = o) (kk : ∀ y : Int32, F y = o → V p l e R s m args below meth c nL X Q M pc lv (.int y :: st)) : V p l e R s m args below meth c nL X Q M pc lv (.int x :: st) := kk x h
theorem gv_iret (pc : Nat) (S : CX p s m args meth c cc nL Ts own (some .int) X) {v r : Int32} {M' : MM} (h : some (v, M) = some (r, M')) (hdg : decode cc pc = .ok (.ireturn, 1)) : V p l e R s m args below meth c nL X (MQ below (gQi X r M') args s 0 0 (gA X)) M pc lv [.int v] := by
  intro H locs ls hG hl
  cases h
  exact W.iret S.1.1 S.1.2.1 S.2.1 (fun t ht hW => ⟨⟨v, M, rfl, ⟨rfl, rfl⟩, by show GP X M t.heap; rw [ht]; exact hG.1⟩, hG.2.F ht⟩) hG.2.2.2 hdg S.2.2.1
theorem gv_iretR (pc : Nat) (S : CX p s m args meth c cc nL Ts own (some .int) X) {v r : Int32} (h : some v = some r) (hdg : decode cc pc = .ok (.ireturn, 1)) : V p l e R s m args below meth c nL X (MQ below (gQi X r M) args s 0 0 (gA X)) M pc lv [.int v] := by
  cases h
  exact gv_iret pc S rfl hdg
theorem gv_zret (pc : Nat) (S : CX p s m args meth c cc nL Ts own (some .boolean) X) {v r : Int32} {M' : MM} (h : some (v, M) = some (r, M')) (hn : narrow .boolean (.int v) = .int v) (hdg : decode cc pc = .ok (.ireturn, 1)) : V p l e R s m args below meth c nL X (MQ below (gQi X r M') args s 0 0 (gA X)) M pc lv [.int v] := by
  intro H locs ls hG hl
  cases h
  exact W.zret S.1.1 S.1.2.1 S.2.1 hn (fun t ht hW => ⟨⟨v, M, rfl, ⟨rfl, rfl⟩, by show GP X M t.heap; rw [ht]; exact hG.1⟩, hG.2.F ht⟩) hG.2.2.2 hdg S.2.2.1
theorem gv_zretR (pc : Nat) (S : CX p s m args meth c cc nL Ts own (some .boolean) X) {v r : Int32} (h : some v = some r) (hn : narrow .boolean (.int v) = .int v) (hdg : decode cc pc = .ok (.ireturn, 1)) : V p l e R s m args below meth c nL X (MQ below (gQi X r M) args s 0 0 (gA X)) M pc lv [.int v] := by
  cases h
  exact gv_zret pc S rfl hn hdg
theorem gv_lret (pc : Nat) (S : CX p s m args meth c cc nL Ts own (some .long) X) {v r : Int64} {M' : MM} (h : some (v, M) = some (r, M')) (hdg : decode cc pc = .ok (.lreturn, 1)) : V p l e R s m args below meth c nL X (MQ below (gQl X r M') args s 0 0 (gA X)) M pc lv [.long v] := by
  intro H locs ls hG hl
  cases h
  exact W.lret S.1.1 S.1.2.1 S.2.1 (fun t ht hW => ⟨⟨v, M, rfl, ⟨rfl, rfl⟩, by show GP X M t.heap; rw [ht]; exact hG.1⟩, hG.2.F ht⟩) hG.2.2.2 hdg S.2.2.1
theorem gv_lretR (pc : Nat) (S : CX p s m args meth c cc nL Ts own (some .long) X) {v r : Int64} (h : some v = some r) (hdg : decode cc pc = .ok (.lreturn, 1)) : V p l e R s m args below meth c nL X (MQ below (gQl X r M) args s 0 0 (gA X)) M pc lv [.long v] := by
  cases h
  exact gv_lret pc S rfl hdg
theorem gv_zretG (pc : Nat) (S : CX p s m args meth c cc nL Ts own (some .boolean) X) {v r : Int32} {M' : MM} (h : (if nb v = true then some (v, M) else none) = some (r, M')) (hdg : decode cc pc = .ok (.ireturn, 1)) : V p l e R s m args below meth c nL X (MQ below (gQi X r M') args s 0 0 (gA X)) M pc lv [.int v] := by
  by_cases hv : nb v = true
  · rw [if_pos hv] at h; exact gv_zret pc S h (nb_nar hv) hdg
  · rw [if_neg hv] at h; cases h
theorem gv_zretRG (pc : Nat) (S : CX p s m args meth c cc nL Ts own (some .boolean) X) {v r : Int32} (h : (if nb v = true then some v else none) = some r) (hdg : decode cc pc = .ok (.ireturn, 1)) : V p l e R s m args below meth c nL X (MQ below (gQi X r M) args s 0 0 (gA X)) M pc lv [.int v] := by
  by_cases hv : nb v = true
  · rw [if_pos hv] at h; exact gv_zretR pc S h (nb_nar hv) hdg
  · rw [if_neg hv] at h; cases h
theorem gv_vret (pc : Nat) (S : CX p s m args meth c cc nL Ts own none X) {M' : MM} (h : some M = some M') (hdg : decode cc pc = .ok (.return_, 1)) : V p l e R s m args below meth c nL X (MQ below (gQv X M') args s 0 0 (gA X)) M pc lv [] := by
  intro H locs ls hG hl
  cases h
  exact W.vret S.1.1 S.1.2.1 S.2.1 (fun t ht hW => ⟨⟨M, rfl, rfl, by show GP X M t.heap; rw [ht]; exact hG.1⟩, hG.2.F ht⟩) hG.2.2.2 hdg S.2.2.1
-- calls
theorem g_recv (S : CX p s m args meth c cc nL Ts own ret X) {H : Heap} {locs : List Loc} (hG : GW X s M H locs) {k ci : Nat} {q : vw_C} (hk : hO X k ci) (hc : vwCl[ci]? = some q) : ∃ cellB : Cell, H[X.2.2 k]? = some cellB ∧ cellB.vm.isStatics = false ∧ s.vm.findClass q.1 = some cellB.cls := by
  obtain ⟨fs, he⟩ := hk.2 (M k)
  exact va_recv S.2.2.2.1 hG.1.1 hc (q0 := k) (by rw [gW_get X M hk.1, he])
theorem gv_cVi (pc : Nat) (S : CX p s m args meth c cc nL Ts own ret X) {y : MethodName} {wsC : List Cond} {rm : Room} {k ci : Nat} {As rest : List Value} {r : Int32} {M' : MM} {C : String} {T : u_T} {N : Nat} {index maxL n : Nat} {bytes : ByteArray} {retC : Option FieldType} (hM : CTi l y wsC rm X (.ref (X.2.2 k) :: As) M r M') (hk : hO X k ci) (hc : vwCl[ci]? = some (C, T, N)) (cw : CallW R s args own C index y bytes maxL retC wsC rm 0 0 n) (hn : As.length = n) (hst : st = As.reverse ++ .ref (X.2.2 k) :: rest) (hroom : (rest.map fun v => v.category).sum ≤ 8) (hdg : decode cc pc = .ok (.invokevirtual index, 3)) (kk : V p l e R s m args below meth c nL X Q M' (pc + 3) lv (.int r :: rest)) : V p l e R s m args below meth c nL X Q M pc lv st := by
  intro H locs ls hG hl
  subst hst
  refine va_calli (va_runV (As := As) (rest := rest) S.1 hM cw ⟨gPc_blind X M _, g_recv S hG hk hc, fun U hU hW => ⟨rfl, S.2.2.2.warm hW, by rw [hU]; exact hG.1⟩⟩ rfl hn hl.1 rfl (lv_room hroom) hdg ⟨Nat.zero_le _, Nat.zero_le _⟩) hG.2 (fun _ _ h => h) (fun _ h => h) (fun r2 u t H1 locs1 ht hvm hw hB hz1 hk1 hS => ?_)
  obtain ⟨rfl, rfl⟩ := hw
  rw [ht] at hB
  exact kk H1 locs1 ls ⟨hB, hS⟩ hl
theorem gv_cVl (pc : Nat) (S : CX p s m args meth c cc nL Ts own ret X) {y : MethodName} {wsC : List Cond} {rm : Room} {k ci : Nat} {As rest : List Value} {r : Int64} {M' : MM} {C : String} {T : u_T} {N : Nat} {index maxL n : Nat} {bytes : ByteArray} {retC : Option FieldType} (hM : CTl l y wsC rm X (.ref (X.2.2 k) :: As) M r M') (hk : hO X k ci) (hc : vwCl[ci]? = some (C, T, N)) (cw : CallW R s args own C index y bytes maxL retC wsC rm 0 0 n) (hn : As.length = n) (hst : st = As.reverse ++ .ref (X.2.2 k) :: rest) (hroom : (rest.map fun v => v.category).sum ≤ 8) (hdg : decode cc pc = .ok (.invokevirtual index, 3)) (kk : V p l e R s m args below meth c nL X Q M' (pc + 3) lv (.long r :: rest)) : V p l e R s m args below meth c nL X Q M pc lv st := by
  intro H locs ls hG hl
  subst hst
  refine va_calll (va_runV (As := As) (rest := rest) S.1 hM cw ⟨gPc_blind X M _, g_recv S hG hk hc, fun U hU hW => ⟨rfl, S.2.2.2.warm hW, by rw [hU]; exact hG.1⟩⟩ rfl hn hl.1 rfl (lv_room hroom) hdg ⟨Nat.zero_le _, Nat.zero_le _⟩) hG.2 (fun _ _ h => h) (fun _ h => h) (fun r2 u t H1 locs1 ht hvm hw hB hz1 hk1 hS => ?_)
  obtain ⟨rfl, rfl⟩ := hw
  rw [ht] at hB
  exact kk H1 locs1 ls ⟨hB, hS⟩ hl
theorem gv_cVv (pc : Nat) (S : CX p s m args meth c cc nL Ts own ret X) {y : MethodName} {wsC : List Cond} {rm : Room} {k ci : Nat} {As rest : List Value} {M' : MM} {C : String} {T : u_T} {N : Nat} {index maxL n : Nat} {bytes : ByteArray} {retC : Option FieldType} (hM : CTv l y wsC rm X (.ref (X.2.2 k) :: As) M M') (hk : hO X k ci) (hc : vwCl[ci]? = some (C, T, N)) (cw : CallW R s args own C index y bytes maxL retC wsC rm 0 0 n) (hn : As.length = n) (hst : st = As.reverse ++ .ref (X.2.2 k) :: rest) (hroom : (rest.map fun v => v.category).sum ≤ 8) (hdg : decode cc pc = .ok (.invokevirtual index, 3)) (kk : V p l e R s m args below meth c nL X Q M' (pc + 3) lv rest) : V p l e R s m args below meth c nL X Q M pc lv st := by
  intro H locs ls hG hl
  subst hst
  refine va_callv (va_runV (As := As) (rest := rest) S.1 hM cw ⟨gPc_blind X M _, g_recv S hG hk hc, fun U hU hW => ⟨rfl, S.2.2.2.warm hW, by rw [hU]; exact hG.1⟩⟩ rfl hn hl.1 rfl (lv_room hroom) hdg ⟨Nat.zero_le _, Nat.zero_le _⟩) hG.2 (fun _ _ h => h) (fun _ h => h) (fun u t H1 locs1 ht hvm hw hB hz1 hk1 hS => ?_)
  subst hw
  rw [ht] at hB
  exact kk H1 locs1 ls ⟨hB, hS⟩ hl
theorem gv_cSi (pc : Nat) (S : CX p s m args meth c cc nL Ts own ret X) {y : MethodName} {wsC : List Cond} {rm : Room} {As rest : List Value} {r : Int32} {M' : MM} {index maxL n : Nat} {bytes : ByteArray} {retC : Option FieldType} (hM : CTi l y wsC rm X As M r M') (cw : CallB R s args own index y bytes maxL retC wsC rm 0 0 n ∧ (Cond.static y).before args s = true) (hn : As.length = n) (hst : st = As.reverse ++ rest) (hroom : (rest.map fun v => v.category).sum ≤ 8) (hdg : decode cc pc = .ok (.invokestatic index, 3)) (kk : V p l e R s m args below meth c nL X Q M' (pc + 3) lv (.int r :: rest)) : V p l e R s m args below meth c nL X Q M pc lv st := by
  intro H locs ls hG hl
  subst hst
  refine va_calli (va_runS (As := As) (rest := rest) S.1 hM cw ⟨gPc_blind X M _, fun U hU hW => ⟨rfl, S.2.2.2.warm hW, by rw [hU]; exact hG.1⟩⟩ rfl hn hl.1 rfl (lv_room hroom) hdg ⟨Nat.zero_le _, Nat.zero_le _⟩) hG.2 (fun _ _ h => h) (fun _ h => h) (fun r2 u t H1 locs1 ht hvm hw hB hz1 hk1 hS => ?_)
  obtain ⟨rfl, rfl⟩ := hw
  rw [ht] at hB
  exact kk H1 locs1 ls ⟨hB, hS⟩ hl
theorem gv_cSl (pc : Nat) (S : CX p s m args meth c cc nL Ts own ret X) {y : MethodName} {wsC : List Cond} {rm : Room} {As rest : List Value} {r : Int64} {M' : MM} {index maxL n : Nat} {bytes : ByteArray} {retC : Option FieldType} (hM : CTl l y wsC rm X As M r M') (cw : CallB R s args own index y bytes maxL retC wsC rm 0 0 n ∧ (Cond.static y).before args s = true) (hn : As.length = n) (hst : st = As.reverse ++ rest) (hroom : (rest.map fun v => v.category).sum ≤ 8) (hdg : decode cc pc = .ok (.invokestatic index, 3)) (kk : V p l e R s m args below meth c nL X Q M' (pc + 3) lv (.long r :: rest)) : V p l e R s m args below meth c nL X Q M pc lv st := by
  intro H locs ls hG hl
  subst hst
  refine va_calll (va_runS (As := As) (rest := rest) S.1 hM cw ⟨gPc_blind X M _, fun U hU hW => ⟨rfl, S.2.2.2.warm hW, by rw [hU]; exact hG.1⟩⟩ rfl hn hl.1 rfl (lv_room hroom) hdg ⟨Nat.zero_le _, Nat.zero_le _⟩) hG.2 (fun _ _ h => h) (fun _ h => h) (fun r2 u t H1 locs1 ht hvm hw hB hz1 hk1 hS => ?_)
  obtain ⟨rfl, rfl⟩ := hw
  rw [ht] at hB
  exact kk H1 locs1 ls ⟨hB, hS⟩ hl
theorem gv_cSv (pc : Nat) (S : CX p s m args meth c cc nL Ts own ret X) {y : MethodName} {wsC : List Cond} {rm : Room} {As rest : List Value} {M' : MM} {index maxL n : Nat} {bytes : ByteArray} {retC : Option FieldType} (hM : CTv l y wsC rm X As M M') (cw : CallB R s args own index y bytes maxL retC wsC rm 0 0 n ∧ (Cond.static y).before args s = true) (hn : As.length = n) (hst : st = As.reverse ++ rest) (hroom : (rest.map fun v => v.category).sum ≤ 8) (hdg : decode cc pc = .ok (.invokestatic index, 3)) (kk : V p l e R s m args below meth c nL X Q M' (pc + 3) lv rest) : V p l e R s m args below meth c nL X Q M pc lv st := by
  intro H locs ls hG hl
  subst hst
  refine va_callv (va_runS (As := As) (rest := rest) S.1 hM cw ⟨gPc_blind X M _, fun U hU hW => ⟨rfl, S.2.2.2.warm hW, by rw [hU]; exact hG.1⟩⟩ rfl hn hl.1 rfl (lv_room hroom) hdg ⟨Nat.zero_le _, Nat.zero_le _⟩) hG.2 (fun _ _ h => h) (fun _ h => h) (fun u t H1 locs1 ht hvm hw hB hz1 hk1 hS => ?_)
  subst hw
  rw [ht] at hB
  exact kk H1 locs1 ls ⟨hB, hS⟩ hl
theorem gv_cSNi (pc : Nat) (S : CX p s m args meth c cc nL Ts own ret X) {y : MethodName} {wsC : List Cond} {rm : Room} {As rest : List Value} {r : Int32} {M' : MM} {host : String} {index maxL n : Nat} {bytes : ByteArray} {retC : Option FieldType} (hM : CTi l y wsC rm X As M r M') (cw : va_CN R s args own index y host bytes maxL retC wsC rm 0 0 n ∧ (Cond.static y).before args s = true ∧ True) (hn : As.length = n) (hst : st = As.reverse ++ rest) (hroom : (rest.map fun v => v.category).sum ≤ 8) (hdg : decode cc pc = .ok (.invokestatic index, 3)) (kk : V p l e R s m args below meth c nL X Q M' (pc + 3) lv (.int r :: rest)) : V p l e R s m args below meth c nL X Q M pc lv st := by
  intro H locs ls hG hl
  subst hst
  refine va_calli (va_runSN (As := As) (rest := rest) S.1 hM cw ⟨gPc_blind X M _, fun U hU hW => ⟨rfl, S.2.2.2.warm hW, by rw [hU]; exact hG.1⟩⟩ rfl hn hl.1 rfl (lv_room hroom) hdg ⟨Nat.zero_le _, Nat.zero_le _⟩) hG.2 (fun _ _ h => h) (fun _ h => h) (fun r2 u t H1 locs1 ht hvm hw hB hz1 hk1 hS => ?_)
  obtain ⟨rfl, rfl⟩ := hw
  rw [ht] at hB
  exact kk H1 locs1 ls ⟨hB, hS⟩ hl
theorem gv_cSNl (pc : Nat) (S : CX p s m args meth c cc nL Ts own ret X) {y : MethodName} {wsC : List Cond} {rm : Room} {As rest : List Value} {r : Int64} {M' : MM} {host : String} {index maxL n : Nat} {bytes : ByteArray} {retC : Option FieldType} (hM : CTl l y wsC rm X As M r M') (cw : va_CN R s args own index y host bytes maxL retC wsC rm 0 0 n ∧ (Cond.static y).before args s = true ∧ True) (hn : As.length = n) (hst : st = As.reverse ++ rest) (hroom : (rest.map fun v => v.category).sum ≤ 8) (hdg : decode cc pc = .ok (.invokestatic index, 3)) (kk : V p l e R s m args below meth c nL X Q M' (pc + 3) lv (.long r :: rest)) : V p l e R s m args below meth c nL X Q M pc lv st := by
  intro H locs ls hG hl
  subst hst
  refine va_calll (va_runSN (As := As) (rest := rest) S.1 hM cw ⟨gPc_blind X M _, fun U hU hW => ⟨rfl, S.2.2.2.warm hW, by rw [hU]; exact hG.1⟩⟩ rfl hn hl.1 rfl (lv_room hroom) hdg ⟨Nat.zero_le _, Nat.zero_le _⟩) hG.2 (fun _ _ h => h) (fun _ h => h) (fun r2 u t H1 locs1 ht hvm hw hB hz1 hk1 hS => ?_)
  obtain ⟨rfl, rfl⟩ := hw
  rw [ht] at hB
  exact kk H1 locs1 ls ⟨hB, hS⟩ hl
theorem gv_cSNv (pc : Nat) (S : CX p s m args meth c cc nL Ts own ret X) {y : MethodName} {wsC : List Cond} {rm : Room} {As rest : List Value} {M' : MM} {host : String} {index maxL n : Nat} {bytes : ByteArray} {retC : Option FieldType} (hM : CTv l y wsC rm X As M M') (cw : va_CN R s args own index y host bytes maxL retC wsC rm 0 0 n ∧ (Cond.static y).before args s = true ∧ True) (hn : As.length = n) (hst : st = As.reverse ++ rest) (hroom : (rest.map fun v => v.category).sum ≤ 8) (hdg : decode cc pc = .ok (.invokestatic index, 3)) (kk : V p l e R s m args below meth c nL X Q M' (pc + 3) lv rest) : V p l e R s m args below meth c nL X Q M pc lv st := by
  intro H locs ls hG hl
  subst hst
  refine va_callv (va_runSN (As := As) (rest := rest) S.1 hM cw ⟨gPc_blind X M _, fun U hU hW => ⟨rfl, S.2.2.2.warm hW, by rw [hU]; exact hG.1⟩⟩ rfl hn hl.1 rfl (lv_room hroom) hdg ⟨Nat.zero_le _, Nat.zero_le _⟩) hG.2 (fun _ _ h => h) (fun _ h => h) (fun u t H1 locs1 ht hvm hw hB hz1 hk1 hS => ?_)
  subst hw
  rw [ht] at hB
  exact kk H1 locs1 ls ⟨hB, hS⟩ hl
end GV
section GE0
variable {l : Launch} {y : MethodName} {ws ws' : List Cond} {rm : Room} {X : GE} {av : List Value} {M M' : MM} {cc : ByteArray} {maxL : Nat} {ret : Option FieldType} {own : String} {lv0 : List (Nat × Value)}
theorem ct_i (hy : plainName y.cls = true) (hw : ws = Cond.code y cc maxL ret :: ws') (ho : y.cls = own) (hlen : (lg_sl av).length ≤ maxL) (hlv : lv_args 0 av = lv0) {r : Int32} (body : ∀ (p : Program) (e : Env) (s : State) (m : MethodId) (args : Array Value) (below : List Frame) (meth : Method) (c : Code), CX p s m args meth c cc maxL ws own ret X → V p l e (headSpec ws rm).room s m args below meth c maxL X (MQ below (gQi X r M') args s 0 0 (gA X)) M 0 lv0 []) : CTi l y ws rm X av M r M' := by
  refine Met.ofW (cc := cc) (maxL := maxL) (ret := ret) hy hw ?_
  intro p e s m args below meth c s₁ B hml hv
  obtain ⟨rfl, hK, hG⟩ := hv
  have hts := atoms_spec (ws := ws) B.pre
  have hown : s.vm.findClass own = some m.cls := by rw [← ho]; exact findClass_of_methodNamed B.named
  have hl := lv_entry av (n := maxL) hlen
  rw [hlv] at hl
  rw [lg_entry_eq]
  exact body p e s m _ below meth c ⟨⟨B.exec, B.bytes, hml, hown, hts⟩, B.returns, B.notSynchronized, hK⟩ s.heap [] _ ⟨hG, va_S.rf⟩ hl
theorem ct_l (hy : plainName y.cls = true) (hw : ws = Cond.code y cc maxL ret :: ws') (ho : y.cls = own) (hlen : (lg_sl av).length ≤ maxL) (hlv : lv_args 0 av = lv0) {r : Int64} (body : ∀ (p : Program) (e : Env) (s : State) (m : MethodId) (args : Array Value) (below : List Frame) (meth : Method) (c : Code), CX p s m args meth c cc maxL ws own ret X → V p l e (headSpec ws rm).room s m args below meth c maxL X (MQ below (gQl X r M') args s 0 0 (gA X)) M 0 lv0 []) : CTl l y ws rm X av M r M' := by
  refine Met.ofW (cc := cc) (maxL := maxL) (ret := ret) hy hw ?_
  intro p e s m args below meth c s₁ B hml hv
  obtain ⟨rfl, hK, hG⟩ := hv
  have hts := atoms_spec (ws := ws) B.pre
  have hown : s.vm.findClass own = some m.cls := by rw [← ho]; exact findClass_of_methodNamed B.named
  have hl := lv_entry av (n := maxL) hlen
  rw [hlv] at hl
  rw [lg_entry_eq]
  exact body p e s m _ below meth c ⟨⟨B.exec, B.bytes, hml, hown, hts⟩, B.returns, B.notSynchronized, hK⟩ s.heap [] _ ⟨hG, va_S.rf⟩ hl
theorem ct_v (hy : plainName y.cls = true) (hw : ws = Cond.code y cc maxL ret :: ws') (ho : y.cls = own) (hlen : (lg_sl av).length ≤ maxL) (hlv : lv_args 0 av = lv0) (body : ∀ (p : Program) (e : Env) (s : State) (m : MethodId) (args : Array Value) (below : List Frame) (meth : Method) (c : Code), CX p s m args meth c cc maxL ws own ret X → V p l e (headSpec ws rm).room s m args below meth c maxL X (MQ below (gQv X M') args s 0 0 (gA X)) M 0 lv0 []) : CTv l y ws rm X av M M' := by
  refine Met.ofW (cc := cc) (maxL := maxL) (ret := ret) hy hw ?_
  intro p e s m args below meth c s₁ B hml hv
  obtain ⟨rfl, hK, hG⟩ := hv
  have hts := atoms_spec (ws := ws) B.pre
  have hown : s.vm.findClass own = some m.cls := by rw [← ho]; exact findClass_of_methodNamed B.named
  have hl := lv_entry av (n := maxL) hlen
  rw [hlv] at hl
  rw [lg_entry_eq]
  exact body p e s m _ below meth c ⟨⟨B.exec, B.bytes, hml, hown, hts⟩, B.returns, B.notSynchronized, hK⟩ s.heap [] _ ⟨hG, va_S.rf⟩ hl
end GE0
