-- the world while it is built: the first n cells, which of their references are set (P)
abbrev PB : Type := Nat → Nat → Bool
def sB (P : PB) (k j : Nat) : PB := fun a b => if a = k then (if b = j then true else P a b) else P a b
theorem sB_ne {P : PB} {k j i : Nat} (h : i ≠ k) : sB P k j i = P i := by
  funext b
  simp [sB, h]
def rfB (b : Bool) (a : Nat) : Value := if b = true then .ref a else .null
def ofB (b : Bool) (a : Nat) : Option Nat := if b = true then some a else none
def gclP (X : GE) : List ((Nat → Bool) → (Nat → Int32) → va_E) := [
  fun b r => Sum.inr (9, [rfB (b 0) (X.2.2 1), rfB (b 1) (X.2.2 20), rfB (b 2) (X.2.2 27), rfB (b 3) (X.2.2 10), rfB (b 4) (X.2.2 19), rfB (b 5) (X.2.2 61), rfB (b 6) (X.2.2 65), rfB (b 7) (X.2.2 68), rfB (b 8) (X.2.2 71), rfB (b 9) (X.2.2 76), .int (r 10), .int (r 11)]),
  fun b _ => Sum.inl (X.2.1 2, 4, Sum.inr (Sum.inr (Sum.inr (Sum.inr (fun i => ofB (b i) (X.2.2 (2 + 2 * i))))))),
  fun b r => Sum.inr (7, [rfB (b 0) (X.2.2 3), .int (r 1), .int (r 2), .int (r 3)]),
  fun _ r => Sum.inl (X.2.1 0, 60, Sum.inl r),
  fun b r => Sum.inr (7, [rfB (b 0) (X.2.2 5), .int (r 1), .int (r 2), .int (r 3)]),
  fun _ r => Sum.inl (X.2.1 0, 60, Sum.inl r),
  fun b r => Sum.inr (7, [rfB (b 0) (X.2.2 7), .int (r 1), .int (r 2), .int (r 3)]),
  fun _ r => Sum.inl (X.2.1 0, 60, Sum.inl r),
  fun b r => Sum.inr (7, [rfB (b 0) (X.2.2 9), .int (r 1), .int (r 2), .int (r 3)]),
  fun _ r => Sum.inl (X.2.1 0, 60, Sum.inl r),
  fun b _ => Sum.inl (X.2.1 3, 2, Sum.inr (Sum.inr (Sum.inr (Sum.inr (fun i => ofB (b i) (X.2.2 (11 + 4 * i))))))),
  fun b r => Sum.inr (6, [rfB (b 0) (X.2.2 12), rfB (b 1) (X.2.2 13), rfB (b 2) (X.2.2 14), .int (r 3), .int (r 4), .int (r 5)]),
  fun _ r => Sum.inl (X.2.1 0, 8, Sum.inl r),
  fun _ r => Sum.inl (X.2.1 0, 8, Sum.inl r),
  fun _ r => Sum.inl (X.2.1 0, 8, Sum.inl r),
  fun b r => Sum.inr (6, [rfB (b 0) (X.2.2 16), rfB (b 1) (X.2.2 17), rfB (b 2) (X.2.2 18), .int (r 3), .int (r 4), .int (r 5)]),
  fun _ r => Sum.inl (X.2.1 0, 8, Sum.inl r),
  fun _ r => Sum.inl (X.2.1 0, 8, Sum.inl r),
  fun _ r => Sum.inl (X.2.1 0, 8, Sum.inl r),
  fun _ r => Sum.inl (X.2.1 1, 2, Sum.inl r),
  fun b r => Sum.inr (1, [rfB (b 0) (X.2.2 21), rfB (b 1) (X.2.2 22), rfB (b 2) (X.2.2 23), .int (r 3)]),
  fun _ r => Sum.inl (X.2.1 0, 8, Sum.inl r),
  fun _ r => Sum.inl (X.2.1 0, 8, Sum.inl r),
  fun b r => Sum.inr (6, [rfB (b 0) (X.2.2 24), rfB (b 1) (X.2.2 25), rfB (b 2) (X.2.2 26), .int (r 3), .int (r 4), .int (r 5)]),
  fun _ r => Sum.inl (X.2.1 0, 8, Sum.inl r),
  fun _ r => Sum.inl (X.2.1 0, 8, Sum.inl r),
  fun _ r => Sum.inl (X.2.1 0, 8, Sum.inl r),
  fun b r => Sum.inr (3, [rfB (b 0) (X.2.2 28), .int (r 1), .int (r 2)]),
  fun b _ => Sum.inl (X.2.1 3, 8, Sum.inr (Sum.inr (Sum.inr (Sum.inr (fun i => ofB (b i) (X.2.2 (29 + 4 * i))))))),
  fun b r => Sum.inr (6, [rfB (b 0) (X.2.2 30), rfB (b 1) (X.2.2 31), rfB (b 2) (X.2.2 32), .int (r 3), .int (r 4), .int (r 5)]),
  fun _ r => Sum.inl (X.2.1 0, 8, Sum.inl r),
  fun _ r => Sum.inl (X.2.1 0, 8, Sum.inl r),
  fun _ r => Sum.inl (X.2.1 0, 8, Sum.inl r),
  fun b r => Sum.inr (6, [rfB (b 0) (X.2.2 34), rfB (b 1) (X.2.2 35), rfB (b 2) (X.2.2 36), .int (r 3), .int (r 4), .int (r 5)]),
  fun _ r => Sum.inl (X.2.1 0, 8, Sum.inl r),
  fun _ r => Sum.inl (X.2.1 0, 8, Sum.inl r),
  fun _ r => Sum.inl (X.2.1 0, 8, Sum.inl r),
  fun b r => Sum.inr (6, [rfB (b 0) (X.2.2 38), rfB (b 1) (X.2.2 39), rfB (b 2) (X.2.2 40), .int (r 3), .int (r 4), .int (r 5)]),
  fun _ r => Sum.inl (X.2.1 0, 8, Sum.inl r),
  fun _ r => Sum.inl (X.2.1 0, 8, Sum.inl r),
  fun _ r => Sum.inl (X.2.1 0, 8, Sum.inl r),
  fun b r => Sum.inr (6, [rfB (b 0) (X.2.2 42), rfB (b 1) (X.2.2 43), rfB (b 2) (X.2.2 44), .int (r 3), .int (r 4), .int (r 5)]),
  fun _ r => Sum.inl (X.2.1 0, 8, Sum.inl r),
  fun _ r => Sum.inl (X.2.1 0, 8, Sum.inl r),
  fun _ r => Sum.inl (X.2.1 0, 8, Sum.inl r),
  fun b r => Sum.inr (6, [rfB (b 0) (X.2.2 46), rfB (b 1) (X.2.2 47), rfB (b 2) (X.2.2 48), .int (r 3), .int (r 4), .int (r 5)]),
  fun _ r => Sum.inl (X.2.1 0, 8, Sum.inl r),
  fun _ r => Sum.inl (X.2.1 0, 8, Sum.inl r),
  fun _ r => Sum.inl (X.2.1 0, 8, Sum.inl r),
  fun b r => Sum.inr (6, [rfB (b 0) (X.2.2 50), rfB (b 1) (X.2.2 51), rfB (b 2) (X.2.2 52), .int (r 3), .int (r 4), .int (r 5)]),
  fun _ r => Sum.inl (X.2.1 0, 8, Sum.inl r),
  fun _ r => Sum.inl (X.2.1 0, 8, Sum.inl r),
  fun _ r => Sum.inl (X.2.1 0, 8, Sum.inl r),
  fun b r => Sum.inr (6, [rfB (b 0) (X.2.2 54), rfB (b 1) (X.2.2 55), rfB (b 2) (X.2.2 56), .int (r 3), .int (r 4), .int (r 5)]),
  fun _ r => Sum.inl (X.2.1 0, 8, Sum.inl r),
  fun _ r => Sum.inl (X.2.1 0, 8, Sum.inl r),
  fun _ r => Sum.inl (X.2.1 0, 8, Sum.inl r),
  fun b r => Sum.inr (6, [rfB (b 0) (X.2.2 58), rfB (b 1) (X.2.2 59), rfB (b 2) (X.2.2 60), .int (r 3), .int (r 4), .int (r 5)]),
  fun _ r => Sum.inl (X.2.1 0, 8, Sum.inl r),
  fun _ r => Sum.inl (X.2.1 0, 8, Sum.inl r),
  fun _ r => Sum.inl (X.2.1 0, 8, Sum.inl r),
  fun b r => Sum.inr (5, [rfB (b 0) (X.2.2 62), rfB (b 1) (X.2.2 63), rfB (b 2) (X.2.2 64), .int (r 3)]),
  fun _ r => Sum.inl (X.2.1 0, 8, Sum.inl r),
  fun _ r => Sum.inl (X.2.1 0, 8, Sum.inl r),
  fun _ r => Sum.inl (X.2.1 0, 8, Sum.inl r),
  fun b r => Sum.inr (2, [rfB (b 0) (X.2.2 66), rfB (b 1) (X.2.2 67), .int (r 2)]),
  fun _ r => Sum.inl (X.2.1 0, 20, Sum.inl r),
  fun _ r => Sum.inl (X.2.1 0, 20, Sum.inl r),
  fun b r => Sum.inr (0, [rfB (b 0) (X.2.2 69), rfB (b 1) (X.2.2 70), .int (r 2), .int (r 3), .int (r 4)]),
  fun _ r => Sum.inl (X.2.1 0, 8, Sum.inl r),
  fun _ r => Sum.inl (X.2.1 0, 8, Sum.inl r),
  fun b r => Sum.inr (4, [rfB (b 0) (X.2.2 72), rfB (b 1) (X.2.2 73), rfB (b 2) (X.2.2 74), rfB (b 3) (X.2.2 75), .int (r 4), .int (r 5)]),
  fun _ r => Sum.inl (X.2.1 0, 24, Sum.inl r),
  fun _ r => Sum.inl (X.2.1 0, 24, Sum.inl r),
  fun _ r => Sum.inl (X.2.1 0, 90, Sum.inl r),
  fun _ r => Sum.inl (X.2.1 0, 8, Sum.inl r),
  fun b r => Sum.inr (8, [rfB (b 0) (X.2.2 77), rfB (b 1) (X.2.2 78), rfB (b 2) (X.2.2 79), rfB (b 3) (X.2.2 80), rfB (b 4) (X.2.2 81), rfB (b 5) (X.2.2 82), .int (r 6)]),
  fun _ r => Sum.inl (X.2.1 0, 32, Sum.inl r),
  fun _ r => Sum.inl (X.2.1 0, 32, Sum.inl r),
  fun _ r => Sum.inl (X.2.1 0, 8, Sum.inl r),
  fun _ r => Sum.inl (X.2.1 0, 8, Sum.inl r),
  fun _ r => Sum.inl (X.2.1 0, 5, Sum.inl r),
  fun _ r => Sum.inl (X.2.1 0, 5, Sum.inl r),
  fun b r => Sum.inr (10, [.int (r 0), .int (r 1), rfB (b 2) (X.2.2 84), rfB (b 3) (X.2.2 85), rfB (b 4) (X.2.2 86), .int (r 5), .int (r 6), .int (r 7), .int (r 8), rfB (b 9) (X.2.2 87), rfB (b 10) (X.2.2 88), rfB (b 11) (X.2.2 89), rfB (b 12) (X.2.2 90), rfB (b 13) (X.2.2 91), .int (r 14), .int (r 15), .int (r 16), .int (r 17), .int (r 18), rfB (b 19) (X.2.2 92), rfB (b 20) (X.2.2 93), .int (r 21), rfB (b 22) (X.2.2 94), rfB (b 23) (X.2.2 95), rfB (b 24) (X.2.2 96), rfB (b 25) (X.2.2 97), rfB (b 26) (X.2.2 98), rfB (b 27) (X.2.2 99), .int (r 28), .int (r 29), rfB (b 30) (X.2.2 100), .int (r 31), .int (r 32), rfB (b 33) (X.2.2 101), rfB (b 34) (X.2.2 102), .int (r 35), rfB (b 36) (X.2.2 103), rfB (b 37) (X.2.2 104), rfB (b 38) (X.2.2 105)]),
  fun _ r => Sum.inl (X.2.1 0, 4, Sum.inl r),
  fun _ r => Sum.inl (X.2.1 0, 4, Sum.inl r),
  fun _ r => Sum.inl (X.2.1 0, 240, Sum.inl r),
  fun _ r => Sum.inl (X.2.1 0, 8, Sum.inl r),
  fun _ r => Sum.inl (X.2.1 0, 8, Sum.inl r),
  fun _ r => Sum.inl (X.2.1 0, 8, Sum.inl r),
  fun _ r => Sum.inl (X.2.1 0, 8, Sum.inl r),
  fun _ r => Sum.inl (X.2.1 0, 8, Sum.inl r),
  fun _ r => Sum.inl (X.2.1 0, 40, Sum.inl r),
  fun _ r => Sum.inl (X.2.1 0, 8, Sum.inl r),
  fun _ r => Sum.inl (X.2.1 0, 200, Sum.inl r),
  fun _ r => Sum.inl (X.2.1 1, 2, Sum.inl r),
  fun _ r => Sum.inl (X.2.1 0, 50, Sum.inl r),
  fun _ r => Sum.inl (X.2.1 0, 2, Sum.inl r),
  fun _ r => Sum.inl (X.2.1 0, 2, Sum.inl r),
  fun _ r => Sum.inl (X.2.1 0, 8, Sum.inl r),
  fun _ r => Sum.inl (X.2.1 0, 8, Sum.inl r),
  fun _ r => Sum.inl (X.2.1 0, 5, Sum.inl r),
  fun _ r => Sum.inl (X.2.1 0, 5, Sum.inl r),
  fun _ r => Sum.inl (X.2.1 0, 8, Sum.inl r),
  fun _ r => Sum.inl (X.2.1 0, 8, Sum.inl r),
  fun _ r => Sum.inl (X.2.1 0, 8, Sum.inl r)]
def gcP (X : GE) (k : Nat) : (Nat → Bool) → (Nat → Int32) → va_E := ((gclP X)[k]?).getD (fun _ _ => Sum.inr (0, []))
def gWP (X : GE) (P : PB) (M : MM) (n : Nat) : va_W := (List.range n).map (fun k => (X.2.2 k, gcP X k (P k) (M k)))
theorem gWP_get (X : GE) (P : PB) (M : MM) {k n : Nat} (hk : k < n) : (gWP X P M n)[k]? = some (X.2.2 k, gcP X k (P k) (M k)) := by
  unfold gWP
  rw [List.getElem?_map, List.getElem?_range hk]
  rfl
theorem gWP_len (X : GE) (P : PB) (M : MM) (n : Nat) : (gWP X P M n).length = n := by simp [gWP]
theorem gWP_at {X : GE} {P : PB} {M : MM} {k n : Nat} {q : Nat × va_E} (h : (gWP X P M n)[k]? = some q) : k < n ∧ q = (X.2.2 k, gcP X k (P k) (M k)) := by
  have hk : k < n := by
    have := (List.getElem?_eq_some_iff.mp h).1
    rwa [gWP_len] at this
  rw [gWP_get X P M hk] at h
  exact ⟨hk, (Option.some.inj h).symm⟩
theorem gWP_succ (X : GE) (P : PB) (M : MM) (n : Nat) : gWP X P M (n + 1) = gWP X P M n ++ [(X.2.2 n, gcP X n (P n) (M n))] := by
  unfold gWP
  rw [List.range_succ, List.map_append]
  rfl
theorem gWP_setP (X : GE) (P : PB) (M : MM) (n k j : Nat) : (gWP X P M n).set k (X.2.2 k, gcP X k (sB P k j k) (M k)) = gWP X (sB P k j) M n := by
  apply List.ext_getElem?
  intro i
  by_cases hk : i < n
  · by_cases hi : i = k
    · subst hi
      rw [List.getElem?_set_self (by rw [gWP_len]; exact hk), gWP_get _ _ _ hk]
    · rw [List.getElem?_set_ne (Ne.symm hi), gWP_get _ _ _ hk, gWP_get _ _ _ hk]
      have e : sB P k j i = P i := by funext b; simp [sB, hi]
      rw [e]
  · rw [List.getElem?_eq_none (by rw [List.length_set, gWP_len]; omega), List.getElem?_eq_none (by rw [gWP_len]; omega)]
theorem gWP_setM (X : GE) (P : PB) (M : MM) (n k : Nat) (r : Nat → Int32) : (gWP X P M n).set k (X.2.2 k, gcP X k (P k) r) = gWP X P (upR M k r) n := by
  apply List.ext_getElem?
  intro i
  by_cases hk : i < n
  · by_cases hi : i = k
    · subst hi
      rw [List.getElem?_set_self (by rw [gWP_len]; exact hk), gWP_get _ _ _ hk]
      simp [upR]
    · rw [List.getElem?_set_ne (Ne.symm hi), gWP_get _ _ _ hk, gWP_get _ _ _ hk]
      simp [upR, hi]
  · rw [List.getElem?_eq_none (by rw [List.length_set, gWP_len]; omega), List.getElem?_eq_none (by rw [gWP_len]; omega)]
def XB (X : GE) : Prop := ∀ k, X.2.2 k = X.2.2 0 + k
def gB (X : GE) : Nat → Prop := fun q => X.2.2 0 ≤ q
theorem gWP_D {X : GE} (hX : XB X) (P : PB) (M : MM) (n : Nat) : va_D (gB X) (gWP X P M n) := by
  refine ⟨fun i j a b ha hb hab => ?_, fun k q hk => ?_⟩
  · rw [(gWP_at ha).2, (gWP_at hb).2] at hab
    have h1 := hX i
    have h2 := hX j
    have h3 : X.2.2 i = X.2.2 j := hab
    omega
  · rw [(gWP_at hk).2]
    show X.2.2 0 ≤ X.2.2 k
    have h1 := hX k
    omega
def GQ (X : GE) (P : PB) (M : MM) (n : Nat) (H : Heap) : Prop := va_P X.1 vwCl (gWP X P M n) H ∧ H.size = X.2.2 0 + n
def nestL : List (String × Nat × MethodName) := [(RX10, 17, yX7_init), (RX10, 24, yX6_init), (RX10, 31, yX1_init), (RX1, 20, yX6_init), (RX3, 17, yX6_init), (RX10, 45, yX5_init), (RX10, 52, yX2_init), (RX10, 59, yX0_init), (RX10, 66, yX4_init), (RX10, 73, yX8_init)]
def NWC (U : State) : Prop := ∀ q ∈ nestL, va_Nw (.methodLinkNest q.1 q.2.1 q.2.2 "FlyFloor") U
def GKC (X : GE) (U : State) : Prop := va_K X.1 vwCl (gTy X) U ∧ NWC U ∧ va_AO RX7 U ∧ va_AO RX6 U
theorem GKC.warm {X : GE} {U T : State} (h : GKC X U) (hW : U.WarmedH T.vm) : GKC X T := ⟨va_K.moved hW.alike h.1, fun q hq => va_Nw.warmM hW (h.2.1 q hq), va_AO.moved hW.alike h.2.2.1, va_AO.moved hW.alike h.2.2.2⟩
theorem GKC.same {X : GE} {U T : State} (h : GKC X U) (hW : U.vm = T.vm) : GKC X T := ⟨va_K.moved (by rw [hW]; exact Vm.Alike.refl T.vm) h.1, fun q hq => va_Nw.same rfl hW (h.2.1 q hq), va_AO.moved (by rw [hW]; exact Vm.Alike.refl T.vm) h.2.2.1, va_AO.moved (by rw [hW]; exact Vm.Alike.refl T.vm) h.2.2.2⟩
def cPc (X : GE) (P : PB) (M : MM) (n : Nat) (av : List Value) : Array Value → State → Prop := va_Pc av (fun U => GKC X U ∧ XB X ∧ GQ X P M n U.heap)
theorem cPc_blind (X : GE) (P : PB) (M : MM) (n : Nat) (av : List Value) : FrameBlind (cPc X P M n av) := fun a U g mk q => ⟨q.1, q.2.1.same (T := U.calling g mk a) rfl, q.2.2.1, q.2.2.2⟩
def cQv (X : GE) (P : PB) (M : MM) (n : Nat) : Array Value → State → Outcome → State → Prop := va_Qv (fun (_ : Unit) => True) (fun _ t => GQ X P M n t.heap) (gB X)
def CTC (l : Launch) (y : MethodName) (ws : List Cond) (rm : Room) (X : GE) (av : List Value) (P : PB) (M : MM) (n : Nat) (P' : PB) (M' : MM) (n' mc ms : Nat) : Prop := Met l y ws rm (cPc X P M n av) (cQv X P' M' n') mc ms (gB X)
def CXC (p : Program) (s : State) (m : MethodId) (args : Array Value) (meth : Method) (c : Code) (cc : ByteArray) (nL : Nat) (Ts : List Cond) (own : String) (ret : Option FieldType) (X : GE) : Prop := CallFix p m c cc nL s args Ts own ∧ meth.sig.returnType = ret ∧ meth.locks = false ∧ GKC X s ∧ XB X ∧ X.2.2 0 ≤ s.heap.size
def CV (p : Program) (l : Launch) (e : Env) (R : Room) (s : State) (m : MethodId) (args : Array Value) (below : List Frame) (meth : Method) (c : Code) (nL : Nat) (X : GE) (Q : State → Prop) (cs sl : Nat) (P : PB) (M : MM) (n pc : Nat) (lv : List (Nat × Value)) (st : List Value) : Prop :=
  ∀ (H : Heap) (locs : List Loc) (ls : Array Slot), GQ X P M n H → va_S (gB X) s.heap H locs → lv_has ls nL lv → W p l e R s m args below meth c H locs cs sl Q (F0 m pc ls st)
def hFP (X : GE) (k ci j t : Nat) : Prop := ∀ b r, b j = true → ∃ fs, gcP X k b r = Sum.inr (ci, fs) ∧ fs[j]? = some (.ref (X.2.2 t))
def hSP (X : GE) (k ci j t : Nat) : Prop := ∀ (P : PB) r, ∃ fs, gcP X k (P k) r = Sum.inr (ci, fs) ∧ j < fs.length ∧ gcP X k (sB P k j k) r = Sum.inr (ci, fs.set j (.ref (X.2.2 t)))
def hIP (X : GE) (k L : Nat) : Prop := ∀ b r, gcP X k b r = Sum.inl (X.2.1 0, L, Sum.inl r)
def hZP (X : GE) (k L : Nat) : Prop := ∀ b r, gcP X k b r = Sum.inl (X.2.1 1, L, Sum.inl r)
def hRP (X : GE) (k L t : Nat) (g : Nat → Nat) : Prop := ∀ b r, gcP X k b r = Sum.inl (X.2.1 t, L, Sum.inr (Sum.inr (Sum.inr (Sum.inr (fun i => ofB (b i) (X.2.2 (g i)))))))
def hOP (X : GE) (k ci : Nat) : Prop := ∀ b r, ∃ fs, gcP X k b r = Sum.inr (ci, fs)
def MPF (Ts : List Cond) (own : String) (index ci j : Nat) (ty : FieldType) : Prop := ∃ (C : String) (T : u_T) (N : Nat) (ty0 : Nat → FieldType), vwCl[ci]? = some (C, T, N) ∧ j < N ∧ (∀ w ∈ u_ws C T N, w ∈ Ts) ∧ Cond.fieldLink own index (T j).1 (T j).2.1 (T j).2.2.1 ∈ Ts ∧ (∀ k, k < N → parseFieldDescriptor (T k).2.2.1 = some (ty0 k)) ∧ (∀ a, a < N → ∀ b, b < N → a ≠ b → (T a).2.1 ≠ (T b).2.1) ∧ (T j).2.2.2 = true ∧ (T j).1 = own ∧ parseFieldDescriptor (T j).2.2.1 = some ty
theorem hSP_0_0 (X : GE) : hSP X 0 9 0 1 := fun P r => ⟨_, rfl, Nat.le_of_ble_eq_true rfl, rfl⟩
theorem hFP_0_0 (X : GE) : hFP X 0 9 0 1 := fun b r h => ⟨_, rfl, by show some (rfB (b 0) _) = _; rw [h]; rfl⟩
theorem hSP_0_1 (X : GE) : hSP X 0 9 1 20 := fun P r => ⟨_, rfl, Nat.le_of_ble_eq_true rfl, rfl⟩
theorem hFP_0_1 (X : GE) : hFP X 0 9 1 20 := fun b r h => ⟨_, rfl, by show some (rfB (b 1) _) = _; rw [h]; rfl⟩
theorem hSP_0_2 (X : GE) : hSP X 0 9 2 27 := fun P r => ⟨_, rfl, Nat.le_of_ble_eq_true rfl, rfl⟩
theorem hFP_0_2 (X : GE) : hFP X 0 9 2 27 := fun b r h => ⟨_, rfl, by show some (rfB (b 2) _) = _; rw [h]; rfl⟩
theorem hSP_0_3 (X : GE) : hSP X 0 9 3 10 := fun P r => ⟨_, rfl, Nat.le_of_ble_eq_true rfl, rfl⟩
theorem hFP_0_3 (X : GE) : hFP X 0 9 3 10 := fun b r h => ⟨_, rfl, by show some (rfB (b 3) _) = _; rw [h]; rfl⟩
theorem hSP_0_4 (X : GE) : hSP X 0 9 4 19 := fun P r => ⟨_, rfl, Nat.le_of_ble_eq_true rfl, rfl⟩
theorem hFP_0_4 (X : GE) : hFP X 0 9 4 19 := fun b r h => ⟨_, rfl, by show some (rfB (b 4) _) = _; rw [h]; rfl⟩
theorem hSP_0_5 (X : GE) : hSP X 0 9 5 61 := fun P r => ⟨_, rfl, Nat.le_of_ble_eq_true rfl, rfl⟩
theorem hFP_0_5 (X : GE) : hFP X 0 9 5 61 := fun b r h => ⟨_, rfl, by show some (rfB (b 5) _) = _; rw [h]; rfl⟩
theorem hSP_0_6 (X : GE) : hSP X 0 9 6 65 := fun P r => ⟨_, rfl, Nat.le_of_ble_eq_true rfl, rfl⟩
theorem hFP_0_6 (X : GE) : hFP X 0 9 6 65 := fun b r h => ⟨_, rfl, by show some (rfB (b 6) _) = _; rw [h]; rfl⟩
theorem hSP_0_7 (X : GE) : hSP X 0 9 7 68 := fun P r => ⟨_, rfl, Nat.le_of_ble_eq_true rfl, rfl⟩
theorem hFP_0_7 (X : GE) : hFP X 0 9 7 68 := fun b r h => ⟨_, rfl, by show some (rfB (b 7) _) = _; rw [h]; rfl⟩
theorem hSP_0_8 (X : GE) : hSP X 0 9 8 71 := fun P r => ⟨_, rfl, Nat.le_of_ble_eq_true rfl, rfl⟩
theorem hFP_0_8 (X : GE) : hFP X 0 9 8 71 := fun b r h => ⟨_, rfl, by show some (rfB (b 8) _) = _; rw [h]; rfl⟩
theorem hSP_0_9 (X : GE) : hSP X 0 9 9 76 := fun P r => ⟨_, rfl, Nat.le_of_ble_eq_true rfl, rfl⟩
theorem hFP_0_9 (X : GE) : hFP X 0 9 9 76 := fun b r h => ⟨_, rfl, by show some (rfB (b 9) _) = _; rw [h]; rfl⟩
theorem hSP_20_0 (X : GE) : hSP X 20 1 0 21 := fun P r => ⟨_, rfl, Nat.le_of_ble_eq_true rfl, rfl⟩
theorem hSP_20_1 (X : GE) : hSP X 20 1 1 22 := fun P r => ⟨_, rfl, Nat.le_of_ble_eq_true rfl, rfl⟩
theorem hSP_20_2 (X : GE) : hSP X 20 1 2 23 := fun P r => ⟨_, rfl, Nat.le_of_ble_eq_true rfl, rfl⟩
theorem hSP_27_0 (X : GE) : hSP X 27 3 0 28 := fun P r => ⟨_, rfl, Nat.le_of_ble_eq_true rfl, rfl⟩
theorem hFP_27_0 (X : GE) : hFP X 27 3 0 28 := fun b r h => ⟨_, rfl, by show some (rfB (b 0) _) = _; rw [h]; rfl⟩
theorem hSP_61_0 (X : GE) : hSP X 61 5 0 62 := fun P r => ⟨_, rfl, Nat.le_of_ble_eq_true rfl, rfl⟩
theorem hSP_61_1 (X : GE) : hSP X 61 5 1 63 := fun P r => ⟨_, rfl, Nat.le_of_ble_eq_true rfl, rfl⟩
theorem hSP_61_2 (X : GE) : hSP X 61 5 2 64 := fun P r => ⟨_, rfl, Nat.le_of_ble_eq_true rfl, rfl⟩
theorem hSP_65_0 (X : GE) : hSP X 65 2 0 66 := fun P r => ⟨_, rfl, Nat.le_of_ble_eq_true rfl, rfl⟩
theorem hSP_65_1 (X : GE) : hSP X 65 2 1 67 := fun P r => ⟨_, rfl, Nat.le_of_ble_eq_true rfl, rfl⟩
theorem hSP_68_0 (X : GE) : hSP X 68 0 0 69 := fun P r => ⟨_, rfl, Nat.le_of_ble_eq_true rfl, rfl⟩
theorem hSP_68_1 (X : GE) : hSP X 68 0 1 70 := fun P r => ⟨_, rfl, Nat.le_of_ble_eq_true rfl, rfl⟩
theorem hSP_71_0 (X : GE) : hSP X 71 4 0 72 := fun P r => ⟨_, rfl, Nat.le_of_ble_eq_true rfl, rfl⟩
theorem hSP_71_1 (X : GE) : hSP X 71 4 1 73 := fun P r => ⟨_, rfl, Nat.le_of_ble_eq_true rfl, rfl⟩
theorem hSP_71_2 (X : GE) : hSP X 71 4 2 74 := fun P r => ⟨_, rfl, Nat.le_of_ble_eq_true rfl, rfl⟩
theorem hSP_71_3 (X : GE) : hSP X 71 4 3 75 := fun P r => ⟨_, rfl, Nat.le_of_ble_eq_true rfl, rfl⟩
theorem hSP_76_0 (X : GE) : hSP X 76 8 0 77 := fun P r => ⟨_, rfl, Nat.le_of_ble_eq_true rfl, rfl⟩
theorem hSP_76_1 (X : GE) : hSP X 76 8 1 78 := fun P r => ⟨_, rfl, Nat.le_of_ble_eq_true rfl, rfl⟩
theorem hSP_76_2 (X : GE) : hSP X 76 8 2 79 := fun P r => ⟨_, rfl, Nat.le_of_ble_eq_true rfl, rfl⟩
theorem hSP_76_3 (X : GE) : hSP X 76 8 3 80 := fun P r => ⟨_, rfl, Nat.le_of_ble_eq_true rfl, rfl⟩
theorem hSP_76_4 (X : GE) : hSP X 76 8 4 81 := fun P r => ⟨_, rfl, Nat.le_of_ble_eq_true rfl, rfl⟩
theorem hSP_76_5 (X : GE) : hSP X 76 8 5 82 := fun P r => ⟨_, rfl, Nat.le_of_ble_eq_true rfl, rfl⟩
theorem hSP_83_2 (X : GE) : hSP X 83 10 2 84 := fun P r => ⟨_, rfl, Nat.le_of_ble_eq_true rfl, rfl⟩
theorem hSP_83_3 (X : GE) : hSP X 83 10 3 85 := fun P r => ⟨_, rfl, Nat.le_of_ble_eq_true rfl, rfl⟩
theorem hSP_83_4 (X : GE) : hSP X 83 10 4 86 := fun P r => ⟨_, rfl, Nat.le_of_ble_eq_true rfl, rfl⟩
theorem hSP_83_9 (X : GE) : hSP X 83 10 9 87 := fun P r => ⟨_, rfl, Nat.le_of_ble_eq_true rfl, rfl⟩
theorem hSP_83_10 (X : GE) : hSP X 83 10 10 88 := fun P r => ⟨_, rfl, Nat.le_of_ble_eq_true rfl, rfl⟩
theorem hSP_83_11 (X : GE) : hSP X 83 10 11 89 := fun P r => ⟨_, rfl, Nat.le_of_ble_eq_true rfl, rfl⟩
theorem hSP_83_12 (X : GE) : hSP X 83 10 12 90 := fun P r => ⟨_, rfl, Nat.le_of_ble_eq_true rfl, rfl⟩
theorem hSP_83_13 (X : GE) : hSP X 83 10 13 91 := fun P r => ⟨_, rfl, Nat.le_of_ble_eq_true rfl, rfl⟩
theorem hSP_83_19 (X : GE) : hSP X 83 10 19 92 := fun P r => ⟨_, rfl, Nat.le_of_ble_eq_true rfl, rfl⟩
theorem hSP_83_20 (X : GE) : hSP X 83 10 20 93 := fun P r => ⟨_, rfl, Nat.le_of_ble_eq_true rfl, rfl⟩
theorem hSP_83_22 (X : GE) : hSP X 83 10 22 94 := fun P r => ⟨_, rfl, Nat.le_of_ble_eq_true rfl, rfl⟩
theorem hSP_83_23 (X : GE) : hSP X 83 10 23 95 := fun P r => ⟨_, rfl, Nat.le_of_ble_eq_true rfl, rfl⟩
theorem hSP_83_24 (X : GE) : hSP X 83 10 24 96 := fun P r => ⟨_, rfl, Nat.le_of_ble_eq_true rfl, rfl⟩
theorem hSP_83_25 (X : GE) : hSP X 83 10 25 97 := fun P r => ⟨_, rfl, Nat.le_of_ble_eq_true rfl, rfl⟩
theorem hSP_83_26 (X : GE) : hSP X 83 10 26 98 := fun P r => ⟨_, rfl, Nat.le_of_ble_eq_true rfl, rfl⟩
theorem hSP_83_27 (X : GE) : hSP X 83 10 27 99 := fun P r => ⟨_, rfl, Nat.le_of_ble_eq_true rfl, rfl⟩
theorem hSP_83_30 (X : GE) : hSP X 83 10 30 100 := fun P r => ⟨_, rfl, Nat.le_of_ble_eq_true rfl, rfl⟩
theorem hSP_83_33 (X : GE) : hSP X 83 10 33 101 := fun P r => ⟨_, rfl, Nat.le_of_ble_eq_true rfl, rfl⟩
theorem hSP_83_34 (X : GE) : hSP X 83 10 34 102 := fun P r => ⟨_, rfl, Nat.le_of_ble_eq_true rfl, rfl⟩
theorem hSP_83_36 (X : GE) : hSP X 83 10 36 103 := fun P r => ⟨_, rfl, Nat.le_of_ble_eq_true rfl, rfl⟩
theorem hSP_83_37 (X : GE) : hSP X 83 10 37 104 := fun P r => ⟨_, rfl, Nat.le_of_ble_eq_true rfl, rfl⟩
theorem hSP_83_38 (X : GE) : hSP X 83 10 38 105 := fun P r => ⟨_, rfl, Nat.le_of_ble_eq_true rfl, rfl⟩
theorem hSP_Sh_0 {X : GE} {k : Nat} (h : isSh k) : hSP X k 7 0 (k + 1) := by
  rcases h with rfl | rfl | rfl | rfl <;> exact fun P r => ⟨_, rfl, Nat.le_of_ble_eq_true rfl, rfl⟩
theorem hIP_Sh_0 {X : GE} {k : Nat} (h : isSh k) : hIP X (k + 1) 60 := by
  rcases h with rfl | rfl | rfl | rfl <;> exact fun b r => rfl
theorem hOP_Sh {X : GE} {k : Nat} (h : isSh k) : hOP X k 7 := by
  rcases h with rfl | rfl | rfl | rfl <;> exact fun b r => ⟨_, rfl⟩
theorem hSP_Rg_0 {X : GE} {k : Nat} (h : isRg k) : hSP X k 6 0 (k + 1) := by
  rcases h with rfl | rfl | rfl | rfl | rfl | rfl | rfl | rfl | rfl | rfl | rfl <;> exact fun P r => ⟨_, rfl, Nat.le_of_ble_eq_true rfl, rfl⟩
theorem hIP_Rg_0 {X : GE} {k : Nat} (h : isRg k) : hIP X (k + 1) 8 := by
  rcases h with rfl | rfl | rfl | rfl | rfl | rfl | rfl | rfl | rfl | rfl | rfl <;> exact fun b r => rfl
theorem hSP_Rg_1 {X : GE} {k : Nat} (h : isRg k) : hSP X k 6 1 (k + 2) := by
  rcases h with rfl | rfl | rfl | rfl | rfl | rfl | rfl | rfl | rfl | rfl | rfl <;> exact fun P r => ⟨_, rfl, Nat.le_of_ble_eq_true rfl, rfl⟩
theorem hIP_Rg_1 {X : GE} {k : Nat} (h : isRg k) : hIP X (k + 2) 8 := by
  rcases h with rfl | rfl | rfl | rfl | rfl | rfl | rfl | rfl | rfl | rfl | rfl <;> exact fun b r => rfl
theorem hSP_Rg_2 {X : GE} {k : Nat} (h : isRg k) : hSP X k 6 2 (k + 3) := by
  rcases h with rfl | rfl | rfl | rfl | rfl | rfl | rfl | rfl | rfl | rfl | rfl <;> exact fun P r => ⟨_, rfl, Nat.le_of_ble_eq_true rfl, rfl⟩
theorem hIP_Rg_2 {X : GE} {k : Nat} (h : isRg k) : hIP X (k + 3) 8 := by
  rcases h with rfl | rfl | rfl | rfl | rfl | rfl | rfl | rfl | rfl | rfl | rfl <;> exact fun b r => rfl
theorem hOP_Rg {X : GE} {k : Nat} (h : isRg k) : hOP X k 6 := by
  rcases h with rfl | rfl | rfl | rfl | rfl | rfl | rfl | rfl | rfl | rfl | rfl <;> exact fun b r => ⟨_, rfl⟩
theorem va_at_i (X : GE) (k L : Nat) (M : MM) (P : PB) (h : hIP X k L) (hM : M k = fun _ => 0) : va_at X.1 vwCl (X.2.2 k, gcP X k (P k) (M k)) = fun H1 => H1[X.2.2 k]? = some (arrV (X.2.1 0) L (fun _ => defaultValue FieldType.int)) := by
  funext H1
  rw [h, hM]
  rfl
theorem va_at_z (X : GE) (k L : Nat) (M : MM) (P : PB) (h : hZP X k L) (hM : M k = fun _ => 0) : va_at X.1 vwCl (X.2.2 k, gcP X k (P k) (M k)) = fun H1 => H1[X.2.2 k]? = some (arrV (X.2.1 1) L (fun _ => defaultValue FieldType.boolean)) := by
  funext H1
  rw [h, hM]
  rfl
theorem va_at_r (X : GE) (k L t : Nat) (g : Nat → Nat) (M : MM) (P : PB) (h : hRP X k L t g) (hP : P k = fun _ => false) : va_at X.1 vwCl (X.2.2 k, gcP X k (P k) (M k)) = fun H1 => H1[X.2.2 k]? = some (arrV (X.2.1 t) L (fun _ => Value.null)) := by
  funext H1
  rw [h, hP]
  rfl
section CVS
variable {p : Program} {l : Launch} {e : Env} {R : Room} {s : State} {m : MethodId} {args : Array Value} {below : List Frame} {meth : Method} {c : Code} {Q : State → Prop} {cc : ByteArray} {nL : Nat} {Ts : List Cond} {own : String} {ret : Option FieldType} {X : GE} {P : PB} {M : MM} {lv : List (Nat × Value)} {st : List Value} {n cs sl : Nat}
theorem cv_iconst (pc : Nat) (S : CXC p s m args meth c cc nL Ts own ret X) {i : Int} (v : Int32) (hdg : decode cc pc = .ok (.iconst i, 1)) (hv : Int32.ofInt i = v) (k : CV p l e R s m args below meth c nL X Q cs sl P M n (pc + 1) lv (.int v :: st)) : CV p l e R s m args below meth c nL X Q cs sl P M n pc lv st := fun H locs ls hG hS hl => lv_iconst S.1.1 S.1.2.1 hdg hv (k H locs ls hG hS hl)
theorem cv_bipush (pc : Nat) (S : CXC p s m args meth c cc nL Ts own ret X) {i : Int} (v : Int32) (hdg : decode cc pc = .ok (.bipush i, 2)) (hv : (Int8.ofInt i).toInt32 = v) (k : CV p l e R s m args below meth c nL X Q cs sl P M n (pc + 2) lv (.int v :: st)) : CV p l e R s m args below meth c nL X Q cs sl P M n pc lv st := fun H locs ls hG hS hl => lv_bipush S.1.1 S.1.2.1 hdg hv (k H locs ls hG hS hl)
theorem cv_sipush (pc : Nat) (S : CXC p s m args meth c cc nL Ts own ret X) {i : Int} (v : Int32) (hdg : decode cc pc = .ok (.sipush i, 3)) (hv : (Int16.ofInt i).toInt32 = v) (k : CV p l e R s m args below meth c nL X Q cs sl P M n (pc + 3) lv (.int v :: st)) : CV p l e R s m args below meth c nL X Q cs sl P M n pc lv st := fun H locs ls hG hS hl => lv_sipush S.1.1 S.1.2.1 hdg hv (k H locs ls hG hS hl)
theorem cv_aload_n (pc : Nat) (S : CXC p s m args meth c cc nL Ts own ret X) {k4 : Fin 4} (i k : Nat) {x : Nat} (hdg : decode cc pc = .ok (.aload_n k4, 1)) (hi : (k4 : Nat) = i) (hk : lv[k]? = some (i, .ref x)) (kk : CV p l e R s m args below meth c nL X Q cs sl P M n (pc + 1) lv (.ref x :: st)) : CV p l e R s m args below meth c nL X Q cs sl P M n pc lv st := fun H locs ls hG hS hl => lv_aload_n S.1.1 S.1.2.1 hdg hi (lv_at hl k hk) (kk H locs ls hG hS hl)
theorem cv_iload_n (pc : Nat) (S : CXC p s m args meth c cc nL Ts own ret X) {k4 : Fin 4} (i k : Nat) {x : Int32} (hdg : decode cc pc = .ok (.iload_n k4, 1)) (hi : (k4 : Nat) = i) (hk : lv[k]? = some (i, .int x)) (kk : CV p l e R s m args below meth c nL X Q cs sl P M n (pc + 1) lv (.int x :: st)) : CV p l e R s m args below meth c nL X Q cs sl P M n pc lv st := fun H locs ls hG hS hl => lv_iload_n S.1.1 S.1.2.1 hdg hi (lv_at hl k hk) (kk H locs ls hG hS hl)
theorem cv_istore_n (pc : Nat) (S : CXC p s m args meth c cc nL Ts own ret X) {k4 : Fin 4} (i : Nat) {x : Int32} {lv' : List (Nat × Value)} (hdg : decode cc pc = .ok (.istore_n k4, 1)) (hi : (k4 : Nat) = i) (hn : i < nL) (hs : (i, Value.int x) :: lv.filter (fun q => !(q.1 == i) && !(q.1 + 1 == i && q.2.category == 2)) = lv') (kk : CV p l e R s m args below meth c nL X Q cs sl P M n (pc + 1) lv' st) : CV p l e R s m args below meth c nL X Q cs sl P M n pc lv (.int x :: st) := fun H locs ls hG hS hl => lv_istore_n S.1.1 S.1.2.1 hdg hi hl hn hs (fun ls' hl' => kk H locs ls' hG hS hl')
theorem cv_iinc (pc : Nat) (S : CXC p s m args meth c cc nL Ts own ret X) {i : Nat} (k : Nat) {d : Int} {x : Int32} (v : Int32) {lv' : List (Nat × Value)} (hdg : decode cc pc = .ok (.iinc i d, 3)) (hk : lv[k]? = some (i, .int x)) (hv : x + Int32.ofInt d = v) (hn : i < nL) (hs : (i, Value.int v) :: lv.filter (fun q => !(q.1 == i) && !(q.1 + 1 == i && q.2.category == 2)) = lv') (kk : CV p l e R s m args below meth c nL X Q cs sl P M n (pc + 3) lv' st) : CV p l e R s m args below meth c nL X Q cs sl P M n pc lv st := fun H locs ls hG hS hl => lv_iinc S.1.1 S.1.2.1 hdg hl hk hv hn hs (fun ls' hl' => kk H locs ls' hG hS hl')
theorem cv_dup (pc : Nat) (S : CXC p s m args meth c cc nL Ts own ret X) {va : Value} (hdg : decode cc pc = .ok (.dup, 1)) (hva : va.category = 1) (kk : CV p l e R s m args below meth c nL X Q cs sl P M n (pc + 1) lv (va :: va :: st)) : CV p l e R s m args below meth c nL X Q cs sl P M n pc lv (va :: st) := fun H locs ls hG hS hl => lv_dup S.1.1 S.1.2.1 hdg hva (kk H locs ls hG hS hl)
theorem cv_goto (pc : Nat) (S : CXC p s m args meth c cc nL Ts own ret X) {off : Int} (tgt : Nat) (hdg : decode cc pc = .ok (.goto off, 3)) (ht : (pc : Int) + off = (tgt : Int)) (k : CV p l e R s m args below meth c nL X Q cs sl P M n tgt lv st) : CV p l e R s m args below meth c nL X Q cs sl P M n pc lv st := fun H locs ls hG hS hl => lv_goto S.1.1 S.1.2.1 hdg ht (k H locs ls hG hS hl)
theorem cv_geT (pc : Nat) (S : CXC p s m args meth c cc nL Ts own ret X) {x y : Int32} {off : Int} (tgt : Nat) (h : y ≤ x) (hdg : decode cc pc = .ok (.if_icmp .ge off, 3)) (ht : (pc : Int) + off = (tgt : Int)) (k : CV p l e R s m args below meth c nL X Q cs sl P M n tgt lv st) : CV p l e R s m args below meth c nL X Q cs sl P M n pc lv (.int y :: .int x :: st) := fun H locs ls hG hS hl => lv_icmp_ge S.1.1 S.1.2.1 hdg ht (fun _ => k H locs ls hG hS hl) (fun q => absurd h q)
theorem cv_geF (pc : Nat) (S : CXC p s m args meth c cc nL Ts own ret X) {x y : Int32} {off : Int} (tgt : Nat) (h : ¬ y ≤ x) (hdg : decode cc pc = .ok (.if_icmp .ge off, 3)) (ht : (pc : Int) + off = (tgt : Int)) (k : CV p l e R s m args below meth c nL X Q cs sl P M n (pc + 3) lv st) : CV p l e R s m args below meth c nL X Q cs sl P M n pc lv (.int y :: .int x :: st) := fun H locs ls hG hS hl => lv_icmp_ge S.1.1 S.1.2.1 hdg ht (fun q => absurd q h) (fun _ => k H locs ls hG hS hl)
theorem cv_obj (pc : Nat) (S : CXC p s m args meth c cc nL Ts own ret X) {a idx : Nat} (h1 : Cond.methodLink own idx objectInit ∈ Ts) (h2 : Cond.instanceMethod objectInit ∈ Ts) (h3 : Cond.code objectInit ⟨#[0xb1]⟩ 1 none ∈ Ts) (hdg : decode cc pc = .ok (.invokespecial idx, 3)) (hfr : 1 ≤ R.frames) (hlo : (st.map fun v => v.category).sum + 12 ≤ R.locals) (kk : CV p l e R s m args below meth c nL X Q cs sl P M n (pc + 3) lv st) : CV p l e R s m args below meth c nL X Q cs sl P M n pc lv (.ref a :: st) := by
  intro H locs ls hG hS hl
  exact W.objInit S.1.1 S.1.2.1 S.1.2.2.2.1 (S.1.2.2.2.2 _ h1) (S.1.2.2.2.2 _ h2) (S.1.2.2.2.2 _ h3) rfl (by rw [S.1.2.2.1]; exact hl.1) rfl hdg hfr (by show 2 * 0 + _ + 12 ≤ _; omega) (kk H locs ls hG hS hl)
theorem cv_kept {H H1 : Heap} (hX : XB X) (hG : GQ X P M n H) (z : H1.size = X.2.2 n + 1) (o : ∀ q, q < X.2.2 n → H1[q]? = H[q]?) (h : va_at X.1 vwCl (X.2.2 n, gcP X n (P n) (M n)) H1) : GQ X P M (n + 1) H1 := by
  have hn := hX n
  refine ⟨?_, by omega⟩
  rw [gWP_succ]
  refine va_P.app (hG.1.kept (fun k x hx => o x.1 ?_)) (fun k x hx => ?_)
  · have := (hG.1 k x hx).lt
    have h2 := hG.2
    omega
  · have hz : k < 1 := (List.getElem?_eq_some_iff.mp hx).1
    rw [show k = 0 by omega] at hx
    cases hx
    exact h
theorem cv_SS {H H1 : Heap} {locs : List Loc} (hX : XB X) (hG : GQ X P M n H) (hS : va_S (gB X) s.heap H locs) (z : H1.size = X.2.2 n + 1) (o : ∀ q, q < X.2.2 n → H1[q]? = H[q]?) : va_S (gB X) s.heap H1 locs := by
  have hn := hX n
  have h2 := hG.2
  have h3 := hS.1
  exact ⟨by omega, fun x h1 h4 => (o x (by omega)).trans (hS.2.1 x h1 h4), hS.2.2⟩
theorem cv_new (pc : Nat) (S : CXC p s m args meth c cc nL Ts own ret X) {index ci N : Nat} {C : String} {T : u_T} {fs : List Value} (ty : Nat → FieldType) (hin : ∀ w ∈ u_ws C T N, w ∈ Ts) (hty : ∀ k, k < N → parseFieldDescriptor (T k).2.2.1 = some (ty k)) (hcl : Cond.classLink own index C ∈ Ts) (hinst : Cond.instantiable C N ∈ Ts) (hini : Cond.initialized C ∈ Ts) (hc : vwCl[ci]? = some (C, T, N)) (he : gcP X n (P n) (M n) = Sum.inr (ci, fs)) (hfs : ∀ j, j < N → defaultValue (ty j) = vp_V fs j) (hcs : cs + 1 ≤ R.cells) (hsl : sl + N ≤ R.slots) (hdg : decode cc pc = .ok (.new index, 3)) (kk : CV p l e R s m args below meth c nL X Q (cs + 1) (sl + N) P M (n + 1) (pc + 3) lv (.ref (X.2.2 n) :: st)) : CV p l e R s m args below meth c nL X Q cs sl P M n pc lv st := by
  intro H locs ls hG hS hl
  have hX := S.2.2.2.2.1
  have hKn := S.2.2.2.1.1.1 ci _ hc
  have hsz : H.size = X.2.2 n := by rw [hG.2, ← hX n]
  refine W.newcK S.1.1 S.1.2.1 S.1.2.2.2.1 (S.1.2.2.2.2 _ hcl) (S.1.2.2.2.2 _ hinst) (S.1.2.2.2.2 _ hini) rfl hdg hcs hsl hKn.2.1 hsz fun H1 kC hkC e1 z1 o1 => ?_
  refine kk H1 locs ls (cv_kept hX hG z1 o1 ?_) (cv_SS hX hG hS z1 o1) hl
  rw [he]
  exact ⟨_, hc, (u_born ty S.1.2.2.2.2 hin hKn hkC e1 hty).to hfs⟩
theorem cv_newa (pc : Nat) (S : CXC p s m args meth c cc nL Ts own ret X) {atype : ArrayType} (harr : Cond.arrayClass (newarray.typeOf atype) ∈ Ts) (t : Nat) (ht : (gTy X)[t]? = some (X.2.1 t, newarray.typeOf atype)) (hRA : va_RA s (X.2.1 t) (newarray.typeOf atype) → s.vm.findClass ("[" ++ (newarray.typeOf atype).toString) = some (X.2.1 t)) {v : Int32} (L : Nat) (he : va_at X.1 vwCl (X.2.2 n, gcP X n (P n) (M n)) = fun H1 => H1[X.2.2 n]? = some (arrV (X.2.1 t) L (fun _ => defaultValue (newarray.typeOf atype)))) (hn : ¬ v < 0) (hN : v.toNatClampNeg = L) (hbytes : L * componentBytes (newarray.typeOf atype) ≤ 536870912) (hcs : cs + 1 ≤ R.cells) (hsl : sl + L ≤ R.slots) (hdg : decode cc pc = .ok (.newarray atype, 2)) (kk : CV p l e R s m args below meth c nL X Q (cs + 1) (sl + L) P M (n + 1) (pc + 2) lv (.ref (X.2.2 n) :: st)) : CV p l e R s m args below meth c nL X Q cs sl P M n pc lv (.int v :: st) := by
  intro H locs ls hG hS hl
  have hX := S.2.2.2.2.1
  have hsz : H.size = X.2.2 n := by rw [hG.2, ← hX n]
  refine va_newaK S.1.1 S.1.2.1 (S.1.2.2.2.2 _ harr) (g := F0 m pc ls (.int v :: st)) rfl hdg rfl hn hN hbytes hcs hsl hsz fun H1 cA e1 z1 o1 hAr hNm => ?_
  have hcA : cA = X.2.1 t := Option.some.inj (hNm.symm.trans (hRA (S.2.2.2.1.1.2 t _ ht).2))
  subst hcA
  refine kk H1 locs ls (cv_kept hX hG z1 o1 ?_) (cv_SS hX hG hS z1 o1) hl
  rw [he]
  exact e1
theorem cv_newq (pc : Nat) (S : CXC p s m args meth c cc nL Ts own ret X) {index : Nat} {C : String} (hcl : Cond.classLink own index C ∈ Ts) (hover : va_AO C s) (t : Nat) (ht : (gTy X)[t]? = some (X.2.1 t, .object C)) {v : Int32} (L : Nat) (he : va_at X.1 vwCl (X.2.2 n, gcP X n (P n) (M n)) = fun H1 => H1[X.2.2 n]? = some (arrV (X.2.1 t) L (fun _ => Value.null))) (hn : ¬ v < 0) (hN : v.toNatClampNeg = L) (hbytes : L * 4 ≤ 536870912) (hcs : cs + 1 ≤ R.cells) (hsl : sl + L ≤ R.slots) (hdg : decode cc pc = .ok (.anewarray index, 3)) (kk : CV p l e R s m args below meth c nL X Q (cs + 1) (sl + L) P M (n + 1) (pc + 3) lv (.ref (X.2.2 n) :: st)) : CV p l e R s m args below meth c nL X Q cs sl P M n pc lv (.int v :: st) := by
  intro H locs ls hG hS hl
  have hX := S.2.2.2.2.1
  have hsz : H.size = X.2.2 n := by rw [hG.2, ← hX n]
  subst hN
  refine W.anew S.1.1 S.1.2.1 S.1.2.2.2.1 (S.1.2.2.2.2 _ hcl) (va_AO.use hover) (g := F0 m pc ls (.int v :: st)) rfl hdg rfl hn hbytes hcs hsl fun cA kA comp f1 f2 f3 f4 => ?_
  generalize hH1 : H.push ({ cls := cA, slots := Array.replicate v.toNatClampNeg .null, vm := .none } : Cell) = H1
  have z1 : H1.size = X.2.2 n + 1 := by rw [← hH1, Array.size_push, hsz]
  have e1 : H1[X.2.2 n]? = some (arrV cA v.toNatClampNeg (fun _ => .null)) := by rw [← hH1, ← hsz, Array.getElem?_push_size, ← arrV_new]
  have o1 : ∀ q : Nat, q < X.2.2 n → H1[q]? = H[q]? := fun q hq => by rw [← hH1, Array.getElem?_push, if_neg (by omega)]
  obtain ⟨kA2, comp2, g1, g2, g3, g4⟩ := (S.2.2.2.1.1.2 t _ ht).2
  have hcA : cA = X.2.1 t := Option.some.inj (f1.symm.trans g4)
  subst hcA
  have hG1 : GQ X P M (n + 1) H1 := cv_kept hX hG z1 o1 (by rw [he]; exact e1)
  have h := kk H1 locs ls hG1 (cv_SS hX hG hS z1 o1) hl
  rw [← hsz] at h
  exact h
theorem cv_putF (pc : Nat) (S : CXC p s m args meth c cc nL Ts own ret X) (hini : meth.name = "<init>") {index k ci j t : Nat} {ty : FieldType} (hk : k < n) (hf : hSP X k ci j t) (mf : MPF Ts own index ci j ty) (hn : narrow ty (.ref (X.2.2 t)) = .ref (X.2.2 t)) (hfit : fits ty (.ref (X.2.2 t)) = true) (hdg : decode cc pc = .ok (.putfield index, 3)) (kk : CV p l e R s m args below meth c nL X Q cs sl (sB P k j) M n (pc + 3) lv st) : CV p l e R s m args below meth c nL X Q cs sl P M n pc lv (.ref (X.2.2 t) :: .ref (X.2.2 k) :: st) := by
  intro H locs ls hG hS hl
  obtain ⟨C, T, N, ty0, hc, hj, hin, hlink, hty, hnm, hfin, hdecl, hd⟩ := mf
  obtain ⟨fs, he, hlen, hs⟩ := hf P (M k)
  have hts := S.1.2.2.2.2
  have hown := S.1.2.2.2.1
  have hg : (gWP X P M n)[k]? = some (X.2.2 k, Sum.inr (ci, fs)) := by rw [gWP_get X P M hk, he]
  have hD := gWP_D S.2.2.2.2.1 P M n
  have hap := va_apart (own := own) hts hin ty0 hty hnm S.2.2.2.1.1 hc
  obtain ⟨r, h1, cell, q1, q2, q3, q4⟩ := hG.1 k _ hg
  have hr : r = (C, T, N) := Option.some.inj (h1.symm.trans hc)
  subst hr
  obtain ⟨hSl, hfc, kC, hkC, hkind⟩ := S.2.2.2.1.1.1 ci _ hc
  obtain ⟨cf, kf, fi, f, hi, hsl⟩ := hSl j hj
  have hlay := hts _ (hin _ (u_in_lay hj))
  unfold u_lay at hlay
  rw [if_pos hfin] at hlay
  have hcf : m.cls = cf := by
    obtain ⟨_, _, c', _, _, _, -, -, hf', -, -, -, hown2, -⟩ := Cond.laysFinal_spec hlay
    have e1 : c' = cf := by have := hi.symm.trans hf'; simp at this; exact this.1.symm
    rw [hdecl] at hown2
    rw [← e1]; exact Option.some.inj (hown.symm.trans hown2)
  refine W.putFinK S.1.1 S.1.2.1 hown (hts _ hlink) hi (u_facts hfc hkC (u_lays hts hin hj) hi).1 hcf hini (by rw [q2]; exact u_fits hfc hkC hkind (Or.inr hlay) hi hd hn hfit) q1 q3 (by rw [hsl]; exact k2_hasslot (q4 j hj)) rfl rfl hdg fun H' e1 e2 e3 => ?_
  rw [hsl] at e1 ⊢
  have hP' := hG.1.set hD hg (e := Sum.inr (ci, fs.set j (.ref (X.2.2 t)))) ⟨_, hc, t_OB.to (V := updV (vp_V fs) j (.ref (X.2.2 t))) ⟨_, e1, q2, q3, t_set q4 hap hj _⟩ (fun i _ => vp_updV_set hlen _ i)⟩ e3
  rw [← hs, gWP_setP] at hP'
  exact kk H' _ ls ⟨hP', by rw [e2]; exact hG.2⟩ (hS.put e2 e3 (hD.2 k _ hg)) hl
theorem cv_get (pc : Nat) (S : CXC p s m args meth c cc nL Ts own ret X) {index k ci j t : Nat} (hk : k < n) (hf : hFP X k ci j t) (hb : P k j = true) (mf : MF Ts own index ci j) (hdg : decode cc pc = .ok (.getfield index, 3)) (kk : CV p l e R s m args below meth c nL X Q cs sl P M n (pc + 3) lv (.ref (X.2.2 t) :: st)) : CV p l e R s m args below meth c nL X Q cs sl P M n pc lv (.ref (X.2.2 k) :: st) := by
  intro H locs ls hG hS hl
  obtain ⟨C, T, N, hc, hj, hin, hlink⟩ := mf
  obtain ⟨fs, he, hv⟩ := hf (P k) (M k) hb
  exact va_get S.1.1 S.1.2.1 S.1.2.2.2.2 hin S.1.2.2.2.1 S.2.2.2.1.1 hG.1 k (by rw [gWP_get X P M hk, he]) hc j hj (S.1.2.2.2.2 _ hlink) (fun _ h => h) hv hdg (kk H locs ls hG hS hl)
theorem cv_iast (pc : Nat) (S : CXC p s m args meth c cc nL Ts own ret X) {k L : Nat} {i x : Int32} (hk : k < n) (hf : hIP X k L) (hi : vp_in i L) (hdg : decode cc pc = .ok (.iastore, 1)) (kk : CV p l e R s m args below meth c nL X Q cs sl P (up2 M k i.toNatClampNeg x) n (pc + 1) lv st) : CV p l e R s m args below meth c nL X Q cs sl P M n pc lv (.int x :: .int i :: .ref (X.2.2 k) :: st) := by
  intro H locs ls hG hS hl
  have hg : (gWP X P M n)[k]? = some (X.2.2 k, Sum.inl (X.2.1 0, L, Sum.inl (M k))) := by rw [gWP_get X P M hk, hf]
  have hD := gWP_D S.2.2.2.2.1 P M n
  refine W.iast S.1.1 S.1.2.1 (hG.1 k _ hg) ((S.2.2.2.1.1.2 0 _ rfl).1 L (fun j => .int (M k j))) (fun q => by cases q) (by show ¬ (i < 0 ∨ (arrV _ _ _).slots.size ≤ _); rw [arrV_size]; exact hi) rfl rfl hdg fun H1 e z oq => ?_
  have hP' := hG.1.set hD hg (e := Sum.inl (X.2.1 0, L, Sum.inl (upd (M k) i.toNatClampNeg x))) (by
    show H1[X.2.2 k]? = some (vp_cell _ _)
    rw [e, vp_cell_i, vp_cell_i, arrV_store]
    congr 2
    funext q
    by_cases hq : q = i.toNatClampNeg
    · subst hq
      simp [updV, upd]
    · simp [updV, upd, hq]) oq
  rw [← hf (P k), gWP_setM] at hP'
  exact kk H1 _ ls ⟨hP', by rw [z]; exact hG.2⟩ (hS.put z oq (hD.2 k _ hg)) hl
theorem cv_aast (pc : Nat) (S : CXC p s m args meth c cc nL Ts own ret X) {k L t ci v : Nat} {g : Nat → Nat} {r : vw_C} {i : Int32} (hk : k < n) (hv : v < n) (hf : hRP X k L t g) (hgv : g i.toNatClampNeg = v) (ho : hOP X v ci) (hc : vwCl[ci]? = some r) (ht : (gTy X)[t]? = some (X.2.1 t, .object r.1)) (hi : vp_in i L) (hdg : decode cc pc = .ok (.aastore, 1)) (kk : CV p l e R s m args below meth c nL X Q cs sl (sB P k i.toNatClampNeg) M n (pc + 1) lv st) : CV p l e R s m args below meth c nL X Q cs sl P M n pc lv (.ref (X.2.2 v) :: .int i :: .ref (X.2.2 k) :: st) := by
  intro H locs ls hG hS hl
  have hg : (gWP X P M n)[k]? = some (X.2.2 k, Sum.inl (X.2.1 t, L, Sum.inr (Sum.inr (Sum.inr (Sum.inr (fun a => ofB (P k a) (X.2.2 (g a)))))))) := by rw [gWP_get X P M hk, hf]
  have hD := gWP_D S.2.2.2.2.1 P M n
  obtain ⟨vs, hvs⟩ := ho (P v) (M v)
  have hlt : i.toNatClampNeg < L := Nat.not_le.mp fun q => hi (Or.inr q)
  have h0 : ¬ i < 0 := fun q => hi (Or.inl q)
  obtain ⟨r', hr', cellV, g1, g2, g3, -⟩ := hG.1 v (X.2.2 v, Sum.inr (ci, vs)) (by rw [gWP_get X P M hv, hvs])
  have hcls := (S.2.2.2.1.1.1 ci r hc).2
  obtain ⟨kA, comp, k1, k2, k3, -⟩ := (S.2.2.2.1.1.2 t _ ht).2
  have hcomp : comp = X.1.1 ci := Option.some.inj (k3.symm.trans hcls.1)
  subst hcomp
  obtain ⟨kC, hkC, -⟩ := hcls.2
  refine W.aast S.1.1 S.1.2.1 (hG.1 k _ hg) (fun q h => by cases h) (fun h => by cases h) k1 k2 rfl hkC ⟨h0, by show _ < (arrV _ _ _).slots.size; rw [arrV_size]; exact hlt⟩ g1 (fun q h => by rw [g3] at h; cases h) (by rw [g2]; exact hkC) (by rw [g2]; exact va_assign hcls) rfl rfl hdg fun H1 e z oq => ?_
  have hP' := hG.1.set hD hg (e := Sum.inl (X.2.1 t, L, Sum.inr (Sum.inr (Sum.inr (Sum.inr (fun a => ofB (sB P k i.toNatClampNeg k a) (X.2.2 (g a)))))))) (by
    show H1[X.2.2 k]? = some (vp_cell _ _)
    rw [e, vp_cell_q, vp_cell_q, arrV_store]
    congr 2
    funext q
    by_cases hq : q = i.toNatClampNeg
    · subst hq
      simp [updV, sB, ofB, va_rf, hgv]
    · simp [updV, sB, hq]) oq
  rw [← hf (sB P k i.toNatClampNeg k) (M k), gWP_setP] at hP'
  exact kk H1 _ ls ⟨hP', by rw [z]; exact hG.2⟩ (hS.put z oq (hD.2 k _ hg)) hl
theorem cv_ret (pc : Nat) (S : CXC p s m args meth c cc nL Ts own none X) (hdg : decode cc pc = .ok (.return_, 1)) : CV p l e R s m args below meth c nL X (MQ below (cQv X P M n) args s cs sl (gB X)) cs sl P M n pc lv [] := by
  intro H locs ls hG hS hl
  exact W.vret S.1.1 S.1.2.1 S.2.1 (fun t ht hW => ⟨⟨(), rfl, trivial, by show GQ X P M n t.heap; rw [ht]; exact hG⟩, hS.F ht⟩) hS.2.2 hdg S.2.2.1
theorem cv_cI (pc : Nat) (S : CXC p s m args meth c cc nL Ts own ret X) {y : MethodName} {wsC : List Cond} {rm : Room} {P' : PB} {M' : MM} {k n' mc ms : Nat} {rest : List Value} {index maxL : Nat} {bytes : ByteArray} (hM : CTC l y wsC rm X [.ref (X.2.2 k)] P M n P' M' n' mc ms) (cw : CallB R s args own index y bytes maxL none wsC rm mc ms 0 ∧ y.name = "<init>" ∧ (Cond.instanceMethod y).before args s = true) (hst : st = .ref (X.2.2 k) :: rest) (hroom : (rest.map fun v => v.category).sum ≤ 8) (hdg : decode cc pc = .ok (.invokespecial index, 3)) (hcs : cs + mc ≤ R.cells) (hsl : sl + ms ≤ R.slots) (kk : CV p l e R s m args below meth c nL X Q (cs + mc) (sl + ms) P' M' n' (pc + 3) lv rest) : CV p l e R s m args below meth c nL X Q cs sl P M n pc lv st := by
  intro H locs ls hG hS hl
  subst hst
  refine va_callv (va_runI (As := []) (rest := rest) S.1 hM cw ⟨cPc_blind X P M n _, fun U hU hW => ⟨rfl, S.2.2.2.1.warm hW, S.2.2.2.2.1, by rw [hU]; exact hG⟩⟩ rfl rfl hl.1 rfl (lv_room hroom) hdg ⟨hcs, hsl⟩) hS (fun _ _ h => h) (fun _ h => h) (fun u t H1 locs1 ht hvm hw hB hz1 hk1 hS => ?_)
  have hB : GQ X P' M' n' t.heap := hB
  rw [ht] at hB
  exact kk H1 locs1 ls hB hS hl
theorem cv_cIN (pc : Nat) (S : CXC p s m args meth c cc nL Ts own ret X) {y : MethodName} {wsC : List Cond} {rm : Room} {P' : PB} {M' : MM} {k n' mc ms : Nat} {rest : List Value} {index maxL : Nat} {bytes : ByteArray} {host : String} (hM : CTC l y wsC rm X [.ref (X.2.2 k)] P M n P' M' n' mc ms) (cw : va_CN R s args own index y host bytes maxL none wsC rm mc ms 0 ∧ y.name = "<init>" ∧ (Cond.instanceMethod y).before args s = true) (hst : st = .ref (X.2.2 k) :: rest) (hroom : (rest.map fun v => v.category).sum ≤ 8) (hdg : decode cc pc = .ok (.invokespecial index, 3)) (hcs : cs + mc ≤ R.cells) (hsl : sl + ms ≤ R.slots) (kk : CV p l e R s m args below meth c nL X Q (cs + mc) (sl + ms) P' M' n' (pc + 3) lv rest) : CV p l e R s m args below meth c nL X Q cs sl P M n pc lv st := by
  intro H locs ls hG hS hl
  subst hst
  refine va_callv (va_runIN (As := []) (rest := rest) S.1 hM cw ⟨cPc_blind X P M n _, fun U hU hW => ⟨rfl, S.2.2.2.1.warm hW, S.2.2.2.2.1, by rw [hU]; exact hG⟩⟩ rfl rfl hl.1 rfl (lv_room hroom) hdg ⟨hcs, hsl⟩) hS (fun _ _ h => h) (fun _ h => h) (fun u t H1 locs1 ht hvm hw hB hz1 hk1 hS => ?_)
  have hB : GQ X P' M' n' t.heap := hB
  rw [ht] at hB
  exact kk H1 locs1 ls hB hS hl
end CVS
theorem ct_C {l : Launch} {y : MethodName} {ws ws' : List Cond} {rm : Room} {X : GE} {k : Nat} {P P' : PB} {M M' : MM} {n n' mc ms : Nat} {cc : ByteArray} {maxL : Nat} {own : String} (hy : plainName y.cls = true) (hw : ws = Cond.code y cc maxL none :: ws') (ho : y.cls = own) (hyn : y.name = "<init>") (hlen : (lg_sl [Value.ref (X.2.2 k)]).length ≤ maxL) (body : ∀ (p : Program) (e : Env) (s : State) (m : MethodId) (args : Array Value) (below : List Frame) (meth : Method) (c : Code), CXC p s m args meth c cc maxL ws own none X → meth.name = "<init>" → CV p l e (headSpec ws rm).room s m args below meth c maxL X (MQ below (cQv X P' M' n') args s mc ms (gB X)) 0 0 P M n 0 [(0, .ref (X.2.2 k))] []) : CTC l y ws rm X [.ref (X.2.2 k)] P M n P' M' n' mc ms := by
  refine Met.ofW (cc := cc) (maxL := maxL) (ret := none) hy hw ?_
  intro p e s m args below meth c s₁ B hml hv
  obtain ⟨rfl, hK, hX, hG⟩ := hv
  have hts := atoms_spec (ws := ws) B.pre
  have hown : s.vm.findClass own = some m.cls := by rw [← ho]; exact findClass_of_methodNamed B.named
  have hin : meth.name = "<init>" := (name_of_methodNamed B.named B.method).1.trans hyn
  have hl := lv_entry [Value.ref (X.2.2 k)] (n := maxL) hlen
  rw [lg_entry_eq]
  exact body p e s m _ below meth c ⟨⟨B.exec, B.bytes, hml, hown, hts⟩, B.returns, B.notSynchronized, hK, hX, by rw [hG.2]; omega⟩ hin s.heap [] _ hG va_S.rf hl
