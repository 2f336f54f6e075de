/-! THE CLAIM OUT OF ONE WALK OF THE LAW'S BODY. Your part is whole_start (and what it stands on); all else here is the same for every law, but numbers. -/
def R_law : String := "FlyFloorLaw"
def lw_P (b : Addr) (xs : List Int32) (args : Array Value) (s : State) : Prop := args = #[.ref b] ∧ s.IntsAt b xs ∧ xs.length ≤ 384 ∧ (Jvm.Cond.and given_1 narrow_1).before args s = true
def lw_Q (_ : Array Value) (s : State) (o : Outcome) (t : State) : Prop := o = .returned (some (.int 1)) ∧ Framed s o t [] 600000 7302250
def lw_Z (below : List Frame) (a : Array Value) (s : State) : State → Prop := fun t => ∃ o, t.status = .running ∧ Ended t below o ∧ lw_Q a s o t
/-- the law's own end, with 1 on the stack, nothing written that was there before, its room as the claim has it -/
theorem lw_ret {p : Program} {l : Launch} {e : Env} {s : State} {m : MethodId} {below : List Frame} {meth : Method} {c : Code} {b : Nat} (hx : p.tables.exec = Jvm.exec) (hb : c.code = code) (hr : meth.sig.returnType = ret) (hlocks : meth.locks = false) {pc : Nat} {H : Heap} {ls : Array Slot} (hdg : decode code pc = .ok (.ireturn, 1)) : W p l e room_1 s m #[Value.ref b] below meth c H [] 600000 7302250 (lw_Z below #[Value.ref b] s) (F0 m pc ls [.int 1]) := by
  intro T hT X
  obtain ⟨fs, hret, hrun, hended, hW, hframe⟩ := X.leave (v := some (.int 1)) (hlocks := hlocks) (fun h => by rw [hr] at h; cases h)
  have hmeth' : T.vm.method? m = some meth := X.method'
  refine ⟨T.setFrames fs, ?_, .returned (some (.int 1)), hrun, hended, rfl, ⟨_, rfl⟩, hW, hframe⟩
  jvm_step X.here [X.here.top, hx, hb, hdg, hmeth', hr, ret, narrow_b1]
  (try refine ⟨rfl, ?_⟩); (try refine ⟨rfl, ?_⟩)
  first | (intro acts; rw [hret _ acts rfl rfl rfl]) | rw [hret _ _ rfl rfl rfl]
  exact Steps.refl _
/-- what holds at the law's entry: the machine, the code, the tables' words (any of lw_tbl by 'hts w (by decide +kernel)'), the script of L ints xs at the cell b, what the Statement gives of the start (any of its parts by flat_of_before) -/
def lw_At (p : Program) (s : State) (m : MethodId) (meth : Method) (c : Code) (b L : Nat) (xs : Nat → Int32) : Prop :=
  p.tables.exec = Jvm.exec ∧ c.code = code ∧ meth.sig.returnType = ret ∧ c.maxLocals = 4 ∧ s.vm.findClass R_law = some m.cls ∧ (∀ w ∈ lw_tbl, w.before #[Value.ref b] s = true) ∧ va_X b L xs s s.heap ∧ b < s.heap.size ∧ meth.locks = false ∧ (Jvm.Cond.and given_1 narrow_1).before #[Value.ref b] s = true

def lw_gB (X : GE) (s : State) : Prop := XB X ∧ X.2.2 0 = s.heap.size
def LX (p : Program) (s : State) (m : MethodId) (meth : Method) (c : Code) (b L : Nat) (xs : Nat → Int32) (X : GE) : Prop := lw_At p s m meth c b L xs ∧ L ≤ 384 ∧ GK X s ∧ XB X ∧ X.2.2 0 = s.heap.size
def LV (p : Program) (l : Launch) (e : Env) (s : State) (m : MethodId) (b : Nat) (below : List Frame) (meth : Method) (c : Code) (X : GE) (M : MM) (pc : Nat) (lv : List (Nat × Value)) (st : List Value) : Prop :=
  ∀ (H : Heap) (locs : List Loc) (ls : Array Slot), GP X M H → va_S (gB X) s.heap H locs → lv_has ls 4 lv → W p l e room_1 s m #[Value.ref b] below meth c H locs 600000 7302250 (lw_Z below #[Value.ref b] s) (F0 m pc ls st)
theorem lg_cmp_self (x : Int64) : lg_cmp x x = 0 := by simp [lg_cmp]
section LW
variable {p : Program} {l : Launch} {e : Env} {s : State} {m : MethodId} {below : List Frame} {meth : Method} {c : Code} {b L : Nat} {xs : Nat → Int32} {X : GE} {M : MM} {lv : List (Nat × Value)} {st : List Value}
theorem lw_hts (S : LX p s m meth c b L xs X) : ∀ w ∈ wsL_law, w.before #[Value.ref b] s = true := fun w h => S.1.2.2.2.2.2.1 w (wsL_law_in w h)
theorem lw_fix (S : LX p s m meth c b L xs X) : CallFix p m c cL_law 4 s #[Value.ref b] wsL_law RL := ⟨S.1.1, S.1.2.1, S.1.2.2.2.1, S.1.2.2.2.2.1, lw_hts S⟩
theorem lw_gA (S : LX p s m meth c b L xs X) : ∀ q, gA X q → gB X q := by
  intro q h
  obtain ⟨k, -, rfl⟩ := h
  have := S.2.2.2.1 k
  show X.2.2 0 ≤ X.2.2 k
  omega
theorem lw_in (S : LX p s m meth c b L xs X) {i k : Nat} (h : i + k < L) : vp_in (nI i + nI k) L := by
  rw [nI_add]
  exact vp_in_nI h (by have := S.2.1; omega)
theorem lw_iconst (pc : Nat) (S : LX p s m meth c b L xs X) {i : Int} (v : Int32) (hdg : decode cL_law pc = .ok (.iconst i, 1)) (hv : Int32.ofInt i = v) (k : LV p l e s m b below meth c X M (pc + 1) lv (.int v :: st)) : LV p l e s m b below meth c X M pc lv st := fun H locs ls hG hS hl => lv_iconst S.1.1 S.1.2.1 hdg hv (k H locs ls hG hS hl)
theorem lw_bipush (pc : Nat) (S : LX p s m meth c b L xs X) {i : Int} (v : Int32) (hdg : decode cL_law pc = .ok (.bipush i, 2)) (hv : (Int8.ofInt i).toInt32 = v) (k : LV p l e s m b below meth c X M (pc + 2) lv (.int v :: st)) : LV p l e s m b below meth c X M pc lv st := fun H locs ls hG hS hl => lv_bipush S.1.1 S.1.2.1 hdg hv (k H locs ls hG hS hl)
theorem lw_aload_n (pc : Nat) (S : LX p s m meth c b L xs X) {k4 : Fin 4} (i k : Nat) {x : Nat} (hdg : decode cL_law pc = .ok (.aload_n k4, 1)) (hi : (k4 : Nat) = i) (hk : lv[k]? = some (i, .ref x)) (kk : LV p l e s m b below meth c X M (pc + 1) lv (.ref x :: st)) : LV p l e s m b below meth c X M pc lv st := fun H locs ls hG hS hl => lv_aload_n S.1.1 S.1.2.1 hdg hi (lv_at hl k hk) (kk H locs ls hG hS hl)
theorem lw_iload_n (pc : Nat) (S : LX p s m meth c b L xs X) {k4 : Fin 4} (i k : Nat) {x : Int32} (hdg : decode cL_law pc = .ok (.iload_n k4, 1)) (hi : (k4 : Nat) = i) (hk : lv[k]? = some (i, .int x)) (kk : LV p l e s m b below meth c X M (pc + 1) lv (.int x :: st)) : LV p l e s m b below meth c X M pc lv st := fun H locs ls hG hS hl => lv_iload_n S.1.1 S.1.2.1 hdg hi (lv_at hl k hk) (kk H locs ls hG hS hl)
theorem lw_iadd (pc : Nat) (S : LX p s m meth c b L xs X) {x y : Int32} (hdg : decode cL_law pc = .ok (.iadd, 1)) (k : LV p l e s m b below meth c X M (pc + 1) lv (.int (x + y) :: st)) : LV p l e s m b below meth c X M pc lv (.int y :: .int x :: st) := fun H locs ls hG hS hl => lv_iadd S.1.1 S.1.2.1 hdg (k H locs ls hG hS hl)
theorem lw_isub (pc : Nat) (S : LX p s m meth c b L xs X) {x y : Int32} (hdg : decode cL_law pc = .ok (.isub, 1)) (k : LV p l e s m b below meth c X M (pc + 1) lv (.int (x - y) :: st)) : LV p l e s m b below meth c X M pc lv (.int y :: .int x :: st) := fun H locs ls hG hS hl => lv_isub S.1.1 S.1.2.1 hdg (k H locs ls hG hS hl)
theorem lw_iand (pc : Nat) (S : LX p s m meth c b L xs X) {x y : Int32} (hdg : decode cL_law pc = .ok (.iand, 1)) (k : LV p l e s m b below meth c X M (pc + 1) lv (.int (x &&& y) :: st)) : LV p l e s m b below meth c X M pc lv (.int y :: .int x :: st) := fun H locs ls hG hS hl => lv_iand S.1.1 S.1.2.1 hdg (k H locs ls hG hS hl)
theorem lw_lcmp (pc : Nat) (S : LX p s m meth c b L xs X) {x y : Int64} (hdg : decode cL_law pc = .ok (.lcmp, 1)) (k : LV p l e s m b below meth c X M (pc + 1) lv (.int (lg_cmp x y) :: st)) : LV p l e s m b below meth c X M pc lv (.long y :: .long x :: st) := fun H locs ls hG hS hl => W.lcmp S.1.1 S.1.2.1 hdg (k H locs ls hG hS hl)
theorem lw_slen (pc : Nat) (S : LX p s m meth c b L xs X) (hdg : decode cL_law pc = .ok (.arraylength, 1)) (k : LV p l e s m b below meth c X M (pc + 1) lv (.int (nI L) :: st)) : LV p l e s m b below meth c X M pc lv (.ref b :: st) := fun H locs ls hG hS hl => va_slen S.1.1 S.1.2.1 S.1.2.2.2.2.2.2.1 S.1.2.2.2.2.2.2.2.1 (A := gB X) (by have h1 := S.2.2.2.2; have h2 := S.1.2.2.2.2.2.2.2.1; show ¬ X.2.2 0 ≤ b; omega) hS hdg (k H locs ls hG hS hl)
theorem lw_sld (pc : Nat) (S : LX p s m meth c b L xs X) {i : Int32} (hi : vp_in i L) (hdg : decode cL_law pc = .ok (.iaload, 1)) (k : LV p l e s m b below meth c X M (pc + 1) lv (.int (xs i.toNatClampNeg) :: st)) : LV p l e s m b below meth c X M pc lv (.int i :: .ref b :: st) := fun H locs ls hG hS hl => va_sld S.1.1 S.1.2.1 S.1.2.2.2.2.2.2.1 S.1.2.2.2.2.2.2.2.1 (A := gB X) (by have h1 := S.2.2.2.2; have h2 := S.1.2.2.2.2.2.2.2.1; show ¬ X.2.2 0 ≤ b; omega) hS hi hdg (k H locs ls hG hS hl)
theorem lw_goto (pc : Nat) (S : LX p s m meth c b L xs X) {off : Int} (tgt : Nat) (hdg : decode cL_law pc = .ok (.goto off, 3)) (ht : (pc : Int) + off = (tgt : Int)) (k : LV p l e s m b below meth c X M tgt lv st) : LV p l e s m b below meth c X M pc lv st := fun H locs ls hG hS hl => lv_goto S.1.1 S.1.2.1 hdg ht (k H locs ls hG hS hl)
theorem lw_iinc (pc : Nat) (S : LX p s m meth c b L xs X) {i : Nat} (k : Nat) {d : Int} {x : Int32} (v : Int32) {lv' : List (Nat × Value)} (hdg : decode cL_law pc = .ok (.iinc i d, 3)) (hk : lv[k]? = some (i, .int x)) (hv : x + Int32.ofInt d = v) (hn : i < 4) (hs : (i, Value.int v) :: lv.filter (fun q => !(q.1 == i) && !(q.1 + 1 == i && q.2.category == 2)) = lv') (kk : LV p l e s m b below meth c X M (pc + 3) lv' st) : LV p l e s m b below meth c X M pc lv st := fun H locs ls hG hS hl => lv_iinc S.1.1 S.1.2.1 hdg hl hk hv hn hs (fun ls' hl' => kk H locs ls' hG hS hl')
theorem lw_eqT (pc : Nat) (S : LX p s m meth c b L xs X) {x y : Int32} {off : Int} (tgt : Nat) (h : x = y) (hdg : decode cL_law pc = .ok (.if_icmp .eq off, 3)) (ht : (pc : Int) + off = (tgt : Int)) (k : LV p l e s m b below meth c X M tgt lv st) : LV p l e s m b below meth c X M pc lv (.int y :: .int x :: st) := fun H locs ls hG hS hl => lv_icmp_eq S.1.1 S.1.2.1 hdg ht (fun _ => k H locs ls hG hS hl) (fun q => absurd h q)
theorem lw_ifeqT (pc : Nat) (S : LX p s m meth c b L xs X) {x : Int32} {off : Int} (tgt : Nat) (h : x = 0) (hdg : decode cL_law pc = .ok (.ifCond .eq off, 3)) (ht : (pc : Int) + off = (tgt : Int)) (k : LV p l e s m b below meth c X M tgt lv st) : LV p l e s m b below meth c X M pc lv (.int x :: st) := fun H locs ls hG hS hl => lv_if_eq S.1.1 S.1.2.1 hdg ht (fun _ => k H locs ls hG hS hl) (fun q => absurd h q)
theorem lw_gt (pc : Nat) (S : LX p s m meth c b L xs X) {x y : Int32} {off : Int} (tgt : Nat) (hdg : decode cL_law pc = .ok (.if_icmp .gt off, 3)) (ht : (pc : Int) + off = (tgt : Int)) (kt : y < x → LV p l e s m b below meth c X M tgt lv st) (kf : ¬ y < x → LV p l e s m b below meth c X M (pc + 3) lv st) : LV p l e s m b below meth c X M pc lv (.int y :: .int x :: st) := fun H locs ls hG hS hl => lv_icmp_gt S.1.1 S.1.2.1 hdg ht (fun q => kt q H locs ls hG hS hl) (fun q => kf q H locs ls hG hS hl)
theorem lw_tabIn (pc : Nat) (S : LX p s m meth c b L xs X) {dflt lo hi : Int} {offs : Array Int} {len : Nat} {x : Int32} {off : Int} (tgt : Nat) (hdg : decode cL_law pc = .ok (.tableswitch dflt lo hi offs, len)) (h1 : ¬ x.toInt < lo) (h2 : ¬ hi < x.toInt) (ho : offs[(x.toInt - lo).toNat]? = some off) (ht : (pc : Int) + off = (tgt : Int)) (k : LV p l e s m b below meth c X M tgt lv st) : LV p l e s m b below meth c X M pc lv (.int x :: st) := fun H locs ls hG hS hl => lv_tableIn S.1.1 S.1.2.1 hdg h1 h2 ho ht (k H locs ls hG hS hl)
theorem lw_tabOut (pc : Nat) (S : LX p s m meth c b L xs X) {dflt lo hi : Int} {offs : Array Int} {len : Nat} {x : Int32} (tgt : Nat) (hdg : decode cL_law pc = .ok (.tableswitch dflt lo hi offs, len)) (h1 : x.toInt < lo ∨ hi < x.toInt) (ht : (pc : Int) + dflt = (tgt : Int)) (k : LV p l e s m b below meth c X M tgt lv st) : LV p l e s m b below meth c X M pc lv (.int x :: st) := fun H locs ls hG hS hl => lv_tableOut S.1.1 S.1.2.1 hdg h1 ht (k H locs ls hG hS hl)
theorem lw_recv (S : LX p s m meth c b L xs X) {H : Heap} (hG : GP X M H) {k ci : Nat} {q : vw_C} (hk : hO X k ci) (hc : vwCl[ci]? = some q) : ∃ cellB : Cell, H[X.2.2 k]? = some cellB ∧ cellB.vm.isStatics = false ∧ s.vm.findClass q.1 = some cellB.cls := by
  obtain ⟨fs, he⟩ := hk.2 (M k)
  exact va_recv S.2.2.1.1 hG.1 hc (q0 := k) (by rw [gW_get X M hk.1, he])
theorem lw_ci (pc : Nat) (S : LX p s m meth c b L xs X) {y : MethodName} {wsC : List Cond} {rm : Room} {k ci : Nat} {As rest : List Value} {r : Int32} {M' : MM} {C : String} {T : u_T} {N index maxL n : Nat} {bytes : ByteArray} {retC : Option FieldType} (hM : CTi l y wsC rm X (.ref (X.2.2 k) :: As) M r M') (hk : hO X k ci) (hc : vwCl[ci]? = some (C, T, N)) (cw : CallW room_1 s #[Value.ref b] RL C index y bytes maxL retC wsC rm 0 0 n) (hn : As.length = n) (hst : st = As.reverse ++ .ref (X.2.2 k) :: rest) (hroom : (rest.map fun v => v.category).sum ≤ 8) (hdg : decode cL_law pc = .ok (.invokevirtual index, 3)) (kk : LV p l e s m b below meth c X M' (pc + 3) lv (.int r :: rest)) : LV p l e s m b below meth c X M pc lv st := by
  intro H locs ls hG hS hl
  subst hst
  refine va_calli (va_runV (As := As) (rest := rest) (lw_fix S) hM cw ⟨gPc_blind X M _, lw_recv S hG hk hc, fun U hU hW => ⟨rfl, S.2.2.1.warm hW, by rw [hU]; exact hG⟩⟩ rfl hn hl.1 rfl (lv_room hroom) hdg ⟨by decide +kernel, by decide +kernel⟩) hS (fun q _ h => lw_gA S q h) (fun q h => lw_gA S q h) (fun r2 u t H1 locs1 ht hvm hw hB hz1 hk1 hS => ?_)
  obtain ⟨rfl, rfl⟩ := hw
  have hB : GP X u t.heap := hB
  rw [ht] at hB
  exact kk H1 locs1 ls hB hS hl
theorem lw_cl (pc : Nat) (S : LX p s m meth c b L xs X) {y : MethodName} {wsC : List Cond} {rm : Room} {k ci : Nat} {As rest : List Value} {r : Int64} {M' : MM} {C : String} {T : u_T} {N index maxL n : Nat} {bytes : ByteArray} {retC : Option FieldType} (hM : CTl l y wsC rm X (.ref (X.2.2 k) :: As) M r M') (hk : hO X k ci) (hc : vwCl[ci]? = some (C, T, N)) (cw : CallW room_1 s #[Value.ref b] RL C index y bytes maxL retC wsC rm 0 0 n) (hn : As.length = n) (hst : st = As.reverse ++ .ref (X.2.2 k) :: rest) (hroom : (rest.map fun v => v.category).sum ≤ 8) (hdg : decode cL_law pc = .ok (.invokevirtual index, 3)) (kk : LV p l e s m b below meth c X M' (pc + 3) lv (.long r :: rest)) : LV p l e s m b below meth c X M pc lv st := by
  intro H locs ls hG hS hl
  subst hst
  refine va_calll (va_runV (As := As) (rest := rest) (lw_fix S) hM cw ⟨gPc_blind X M _, lw_recv S hG hk hc, fun U hU hW => ⟨rfl, S.2.2.1.warm hW, by rw [hU]; exact hG⟩⟩ rfl hn hl.1 rfl (lv_room hroom) hdg ⟨by decide +kernel, by decide +kernel⟩) hS (fun q _ h => lw_gA S q h) (fun q h => lw_gA S q h) (fun r2 u t H1 locs1 ht hvm hw hB hz1 hk1 hS => ?_)
  obtain ⟨rfl, rfl⟩ := hw
  have hB : GP X u t.heap := hB
  rw [ht] at hB
  exact kk H1 locs1 ls hB hS hl
end LW
set_option maxHeartbeats 4000000 in
set_option maxRecDepth 100000 in
theorem lw_case_0 {p : Program} {l : Launch} {e : Env} {s : State} {m : MethodId} {below : List Frame} {meth : Method} {c : Code} {b L : Nat} {xs : Nat → Int32} {X : GE} (S : LX p s m meth c b L xs X) {Inv : MM → Prop} (hs : St_loft Inv) (M : MM) (hI : Inv M) (i : Nat) (hi : i + 6 ≤ L) (next : ∀ M2 : MM, Inv M2 → LV p l e s m b below meth c X M2 1325 [(0, .ref b), (1, .ref (X.2.2 0)), (2, .ref (X.2.2 83)), (3, .int (nI i))] []) : LV p l e s m b below meth c X M 188 [(0, .ref b), (1, .ref (X.2.2 0)), (2, .ref (X.2.2 83)), (3, .int (nI i))] [] := by
    have h1 : vp_in (nI i + (1 : Int32)) L := lw_in S (k := 1) (by omega)
    have h2 : vp_in (nI i + (2 : Int32)) L := lw_in S (k := 2) (by omega)
    have h3 : vp_in (nI i + (3 : Int32)) L := lw_in S (k := 3) (by omega)
    have h4 : vp_in (nI i + (4 : Int32)) L := lw_in S (k := 4) (by omega)
    obtain ⟨r, M1, M2, e1, e2, hI⟩ := hs M hI (xs (nI i + (1 : Int32)).toNatClampNeg) (xs (nI i + (2 : Int32)).toNatClampNeg) (xs (nI i + (3 : Int32)).toNatClampNeg) (xs (nI i + (4 : Int32)).toNatClampNeg)
    refine lw_aload_n 188 S 1 1 dL_law_188 rfl rfl ?_
    refine lw_aload_n 189 S 0 0 dL_law_189 rfl rfl ?_
    refine lw_iload_n 190 S 3 3 dL_law_190 rfl rfl ?_
    refine lw_iconst 191 S (1 : Int32) dL_law_191 (by decide) ?_
    refine lw_iadd 192 S dL_law_192 ?_
    refine lw_sld 193 S (h1) dL_law_193 ?_
    refine lw_aload_n 194 S 0 0 dL_law_194 rfl rfl ?_
    refine lw_iload_n 195 S 3 3 dL_law_195 rfl rfl ?_
    refine lw_iconst 196 S (2 : Int32) dL_law_196 (by decide) ?_
    refine lw_iadd 197 S dL_law_197 ?_
    refine lw_sld 198 S (h2) dL_law_198 ?_
    refine lw_aload_n 199 S 0 0 dL_law_199 rfl rfl ?_
    refine lw_iload_n 200 S 3 3 dL_law_200 rfl rfl ?_
    refine lw_iconst 201 S (3 : Int32) dL_law_201 (by decide) ?_
    refine lw_iadd 202 S dL_law_202 ?_
    refine lw_sld 203 S (h3) dL_law_203 ?_
    refine lw_aload_n 204 S 0 0 dL_law_204 rfl rfl ?_
    refine lw_iload_n 205 S 3 3 dL_law_205 rfl rfl ?_
    refine lw_iconst 206 S (4 : Int32) dL_law_206 (by decide) ?_
    refine lw_iadd 207 S dL_law_207 ?_
    refine lw_sld 208 S (h4) dL_law_208 ?_
    refine lw_ci 209 S (As := [.int (xs (nI i + (1 : Int32)).toNatClampNeg), .int (xs (nI i + (2 : Int32)).toNatClampNeg), .int (xs (nI i + (3 : Int32)).toNatClampNeg), .int (xs (nI i + (4 : Int32)).toNatClampNeg)]) (rest := []) (c_X10_loft l X M (xs (nI i + (1 : Int32)).toNatClampNeg) (xs (nI i + (2 : Int32)).toNatClampNeg) (xs (nI i + (3 : Int32)).toNatClampNeg) (xs (nI i + (4 : Int32)).toNatClampNeg) r M1 e1) (hO_0 X) rfl (cwV 4 (lw_hts S) gL_law_X10_loft rfl rfl rfl (by decide +kernel) ⟨by decide +kernel, by decide +kernel⟩) rfl rfl (Nat.le_of_ble_eq_true rfl) dL_law_209 ?_
    refine lw_aload_n 212 S 2 2 dL_law_212 rfl rfl ?_
    refine lw_aload_n 213 S 0 0 dL_law_213 rfl rfl ?_
    refine lw_iload_n 214 S 3 3 dL_law_214 rfl rfl ?_
    refine lw_iconst 215 S (1 : Int32) dL_law_215 (by decide) ?_
    refine lw_iadd 216 S dL_law_216 ?_
    refine lw_sld 217 S (h1) dL_law_217 ?_
    refine lw_aload_n 218 S 0 0 dL_law_218 rfl rfl ?_
    refine lw_iload_n 219 S 3 3 dL_law_219 rfl rfl ?_
    refine lw_iconst 220 S (2 : Int32) dL_law_220 (by decide) ?_
    refine lw_iadd 221 S dL_law_221 ?_
    refine lw_sld 222 S (h2) dL_law_222 ?_
    refine lw_aload_n 223 S 0 0 dL_law_223 rfl rfl ?_
    refine lw_iload_n 224 S 3 3 dL_law_224 rfl rfl ?_
    refine lw_iconst 225 S (3 : Int32) dL_law_225 (by decide) ?_
    refine lw_iadd 226 S dL_law_226 ?_
    refine lw_sld 227 S (h3) dL_law_227 ?_
    refine lw_aload_n 228 S 0 0 dL_law_228 rfl rfl ?_
    refine lw_iload_n 229 S 3 3 dL_law_229 rfl rfl ?_
    refine lw_iconst 230 S (4 : Int32) dL_law_230 (by decide) ?_
    refine lw_iadd 231 S dL_law_231 ?_
    refine lw_sld 232 S (h4) dL_law_232 ?_
    refine lw_ci 233 S (As := [.int (xs (nI i + (1 : Int32)).toNatClampNeg), .int (xs (nI i + (2 : Int32)).toNatClampNeg), .int (xs (nI i + (3 : Int32)).toNatClampNeg), .int (xs (nI i + (4 : Int32)).toNatClampNeg)]) (rest := [.int r]) (c_X11_loft l X M1 (xs (nI i + (1 : Int32)).toNatClampNeg) (xs (nI i + (2 : Int32)).toNatClampNeg) (xs (nI i + (3 : Int32)).toNatClampNeg) (xs (nI i + (4 : Int32)).toNatClampNeg) r M2 e2) (hO_83 X) rfl (cwV 4 (lw_hts S) gL_law_X11_loft rfl rfl rfl (by decide +kernel) ⟨by decide +kernel, by decide +kernel⟩) rfl rfl (Nat.le_of_ble_eq_true rfl) dL_law_233 ?_
    refine lw_eqT 236 S 1325 rfl dL_law_236 (by decide) ?_
    exact next M2 hI
set_option maxHeartbeats 4000000 in
set_option maxRecDepth 100000 in
theorem lw_case_1 {p : Program} {l : Launch} {e : Env} {s : State} {m : MethodId} {below : List Frame} {meth : Method} {c : Code} {b L : Nat} {xs : Nat → Int32} {X : GE} (S : LX p s m meth c b L xs X) {Inv : MM → Prop} (hs : St_ofBatten Inv) (M : MM) (hI : Inv M) (i : Nat) (hi : i + 6 ≤ L) (next : ∀ M2 : MM, Inv M2 → LV p l e s m b below meth c X M2 1325 [(0, .ref b), (1, .ref (X.2.2 0)), (2, .ref (X.2.2 83)), (3, .int (nI i))] []) : LV p l e s m b below meth c X M 241 [(0, .ref b), (1, .ref (X.2.2 0)), (2, .ref (X.2.2 83)), (3, .int (nI i))] [] := by
    have h1 : vp_in (nI i + (1 : Int32)) L := lw_in S (k := 1) (by omega)
    have h2 : vp_in (nI i + (2 : Int32)) L := lw_in S (k := 2) (by omega)
    obtain ⟨r, e1, e2, hI⟩ := hs M hI (xs (nI i + (1 : Int32)).toNatClampNeg) (xs (nI i + (2 : Int32)).toNatClampNeg)
    refine lw_aload_n 241 S 1 1 dL_law_241 rfl rfl ?_
    refine lw_aload_n 242 S 0 0 dL_law_242 rfl rfl ?_
    refine lw_iload_n 243 S 3 3 dL_law_243 rfl rfl ?_
    refine lw_iconst 244 S (1 : Int32) dL_law_244 (by decide) ?_
    refine lw_iadd 245 S dL_law_245 ?_
    refine lw_sld 246 S (h1) dL_law_246 ?_
    refine lw_aload_n 247 S 0 0 dL_law_247 rfl rfl ?_
    refine lw_iload_n 248 S 3 3 dL_law_248 rfl rfl ?_
    refine lw_iconst 249 S (2 : Int32) dL_law_249 (by decide) ?_
    refine lw_iadd 250 S dL_law_250 ?_
    refine lw_sld 251 S (h2) dL_law_251 ?_
    refine lw_ci 252 S (As := [.int (xs (nI i + (1 : Int32)).toNatClampNeg), .int (xs (nI i + (2 : Int32)).toNatClampNeg)]) (rest := []) (c_X10_ofBatten l X M (xs (nI i + (1 : Int32)).toNatClampNeg) (xs (nI i + (2 : Int32)).toNatClampNeg) r e1) (hO_0 X) rfl (cwV 2 (lw_hts S) gL_law_X10_ofBatten rfl rfl rfl (by decide +kernel) ⟨by decide +kernel, by decide +kernel⟩) rfl rfl (Nat.le_of_ble_eq_true rfl) dL_law_252 ?_
    refine lw_aload_n 255 S 2 2 dL_law_255 rfl rfl ?_
    refine lw_aload_n 256 S 0 0 dL_law_256 rfl rfl ?_
    refine lw_iload_n 257 S 3 3 dL_law_257 rfl rfl ?_
    refine lw_iconst 258 S (1 : Int32) dL_law_258 (by decide) ?_
    refine lw_iadd 259 S dL_law_259 ?_
    refine lw_sld 260 S (h1) dL_law_260 ?_
    refine lw_aload_n 261 S 0 0 dL_law_261 rfl rfl ?_
    refine lw_iload_n 262 S 3 3 dL_law_262 rfl rfl ?_
    refine lw_iconst 263 S (2 : Int32) dL_law_263 (by decide) ?_
    refine lw_iadd 264 S dL_law_264 ?_
    refine lw_sld 265 S (h2) dL_law_265 ?_
    refine lw_ci 266 S (As := [.int (xs (nI i + (1 : Int32)).toNatClampNeg), .int (xs (nI i + (2 : Int32)).toNatClampNeg)]) (rest := [.int r]) (c_X11_ofBatten l X M (xs (nI i + (1 : Int32)).toNatClampNeg) (xs (nI i + (2 : Int32)).toNatClampNeg) r e2) (hO_83 X) rfl (cwV 2 (lw_hts S) gL_law_X11_ofBatten rfl rfl rfl (by decide +kernel) ⟨by decide +kernel, by decide +kernel⟩) rfl rfl (Nat.le_of_ble_eq_true rfl) dL_law_266 ?_
    refine lw_eqT 269 S 1325 rfl dL_law_269 (by decide) ?_
    exact next M hI
set_option maxHeartbeats 4000000 in
set_option maxRecDepth 100000 in
theorem lw_case_2 {p : Program} {l : Launch} {e : Env} {s : State} {m : MethodId} {below : List Frame} {meth : Method} {c : Code} {b L : Nat} {xs : Nat → Int32} {X : GE} (S : LX p s m meth c b L xs X) {Inv : MM → Prop} (hs : St_seen Inv) (M : MM) (hI : Inv M) (i : Nat) (hi : i + 6 ≤ L) (next : ∀ M2 : MM, Inv M2 → LV p l e s m b below meth c X M2 1325 [(0, .ref b), (1, .ref (X.2.2 0)), (2, .ref (X.2.2 83)), (3, .int (nI i))] []) : LV p l e s m b below meth c X M 274 [(0, .ref b), (1, .ref (X.2.2 0)), (2, .ref (X.2.2 83)), (3, .int (nI i))] [] := by
    obtain ⟨r, e1, e2, hI⟩ := hs M hI
    refine lw_aload_n 274 S 1 1 dL_law_274 rfl rfl ?_
    refine lw_ci 275 S (As := []) (rest := []) (c_X10_seen l X M r e1) (hO_0 X) rfl (cwV 0 (lw_hts S) gL_law_X10_seen rfl rfl rfl (by decide +kernel) ⟨by decide +kernel, by decide +kernel⟩) rfl rfl (Nat.le_of_ble_eq_true rfl) dL_law_275 ?_
    refine lw_aload_n 278 S 2 2 dL_law_278 rfl rfl ?_
    refine lw_ci 279 S (As := []) (rest := [.int r]) (c_X11_seen l X M r e2) (hO_83 X) rfl (cwV 0 (lw_hts S) gL_law_X11_seen rfl rfl rfl (by decide +kernel) ⟨by decide +kernel, by decide +kernel⟩) rfl rfl (Nat.le_of_ble_eq_true rfl) dL_law_279 ?_
    refine lw_eqT 282 S 1325 rfl dL_law_282 (by decide) ?_
    exact next M hI
set_option maxHeartbeats 4000000 in
set_option maxRecDepth 100000 in
theorem lw_case_3 {p : Program} {l : Launch} {e : Env} {s : State} {m : MethodId} {below : List Frame} {meth : Method} {c : Code} {b L : Nat} {xs : Nat → Int32} {X : GE} (S : LX p s m meth c b L xs X) {Inv : MM → Prop} (hs : St_hides Inv) (M : MM) (hI : Inv M) (i : Nat) (hi : i + 6 ≤ L) (next : ∀ M2 : MM, Inv M2 → LV p l e s m b below meth c X M2 1325 [(0, .ref b), (1, .ref (X.2.2 0)), (2, .ref (X.2.2 83)), (3, .int (nI i))] []) : LV p l e s m b below meth c X M 287 [(0, .ref b), (1, .ref (X.2.2 0)), (2, .ref (X.2.2 83)), (3, .int (nI i))] [] := by
    have h1 : vp_in (nI i + (1 : Int32)) L := lw_in S (k := 1) (by omega)
    obtain ⟨r, e1, e2, hI⟩ := hs M hI (xs (nI i + (1 : Int32)).toNatClampNeg)
    refine lw_aload_n 287 S 1 1 dL_law_287 rfl rfl ?_
    refine lw_aload_n 288 S 0 0 dL_law_288 rfl rfl ?_
    refine lw_iload_n 289 S 3 3 dL_law_289 rfl rfl ?_
    refine lw_iconst 290 S (1 : Int32) dL_law_290 (by decide) ?_
    refine lw_iadd 291 S dL_law_291 ?_
    refine lw_sld 292 S (h1) dL_law_292 ?_
    refine lw_ci 293 S (As := [.int (xs (nI i + (1 : Int32)).toNatClampNeg)]) (rest := []) (c_X10_hides l X M (xs (nI i + (1 : Int32)).toNatClampNeg) r e1) (hO_0 X) rfl (cwV 1 (lw_hts S) gL_law_X10_hides rfl rfl rfl (by decide +kernel) ⟨by decide +kernel, by decide +kernel⟩) rfl rfl (Nat.le_of_ble_eq_true rfl) dL_law_293 ?_
    refine lw_aload_n 296 S 2 2 dL_law_296 rfl rfl ?_
    refine lw_aload_n 297 S 0 0 dL_law_297 rfl rfl ?_
    refine lw_iload_n 298 S 3 3 dL_law_298 rfl rfl ?_
    refine lw_iconst 299 S (1 : Int32) dL_law_299 (by decide) ?_
    refine lw_iadd 300 S dL_law_300 ?_
    refine lw_sld 301 S (h1) dL_law_301 ?_
    refine lw_ci 302 S (As := [.int (xs (nI i + (1 : Int32)).toNatClampNeg)]) (rest := [.int r]) (c_X11_hides l X M (xs (nI i + (1 : Int32)).toNatClampNeg) r e2) (hO_83 X) rfl (cwV 1 (lw_hts S) gL_law_X11_hides rfl rfl rfl (by decide +kernel) ⟨by decide +kernel, by decide +kernel⟩) rfl rfl (Nat.le_of_ble_eq_true rfl) dL_law_302 ?_
    refine lw_eqT 305 S 1325 rfl dL_law_305 (by decide) ?_
    exact next M hI
set_option maxHeartbeats 4000000 in
set_option maxRecDepth 100000 in
theorem lw_case_4 {p : Program} {l : Launch} {e : Env} {s : State} {m : MethodId} {below : List Frame} {meth : Method} {c : Code} {b L : Nat} {xs : Nat → Int32} {X : GE} (S : LX p s m meth c b L xs X) {Inv : MM → Prop} (hs : St_hire Inv) (M : MM) (hI : Inv M) (i : Nat) (hi : i + 6 ≤ L) (next : ∀ M2 : MM, Inv M2 → LV p l e s m b below meth c X M2 1325 [(0, .ref b), (1, .ref (X.2.2 0)), (2, .ref (X.2.2 83)), (3, .int (nI i))] []) : LV p l e s m b below meth c X M 310 [(0, .ref b), (1, .ref (X.2.2 0)), (2, .ref (X.2.2 83)), (3, .int (nI i))] [] := by
    have h1 : vp_in (nI i + (1 : Int32)) L := lw_in S (k := 1) (by omega)
    obtain ⟨r, M1, M2, e1, e2, hI⟩ := hs M hI (xs (nI i + (1 : Int32)).toNatClampNeg)
    refine lw_aload_n 310 S 1 1 dL_law_310 rfl rfl ?_
    refine lw_aload_n 311 S 0 0 dL_law_311 rfl rfl ?_
    refine lw_iload_n 312 S 3 3 dL_law_312 rfl rfl ?_
    refine lw_iconst 313 S (1 : Int32) dL_law_313 (by decide) ?_
    refine lw_iadd 314 S dL_law_314 ?_
    refine lw_sld 315 S (h1) dL_law_315 ?_
    refine lw_ci 316 S (As := [.int (xs (nI i + (1 : Int32)).toNatClampNeg)]) (rest := []) (c_X10_hire l X M (xs (nI i + (1 : Int32)).toNatClampNeg) r M1 e1) (hO_0 X) rfl (cwV 1 (lw_hts S) gL_law_X10_hire rfl rfl rfl (by decide +kernel) ⟨by decide +kernel, by decide +kernel⟩) rfl rfl (Nat.le_of_ble_eq_true rfl) dL_law_316 ?_
    refine lw_aload_n 319 S 2 2 dL_law_319 rfl rfl ?_
    refine lw_aload_n 320 S 0 0 dL_law_320 rfl rfl ?_
    refine lw_iload_n 321 S 3 3 dL_law_321 rfl rfl ?_
    refine lw_iconst 322 S (1 : Int32) dL_law_322 (by decide) ?_
    refine lw_iadd 323 S dL_law_323 ?_
    refine lw_sld 324 S (h1) dL_law_324 ?_
    refine lw_ci 325 S (As := [.int (xs (nI i + (1 : Int32)).toNatClampNeg)]) (rest := [.int r]) (c_X11_hire l X M1 (xs (nI i + (1 : Int32)).toNatClampNeg) r M2 e2) (hO_83 X) rfl (cwV 1 (lw_hts S) gL_law_X11_hire rfl rfl rfl (by decide +kernel) ⟨by decide +kernel, by decide +kernel⟩) rfl rfl (Nat.le_of_ble_eq_true rfl) dL_law_325 ?_
    refine lw_eqT 328 S 1325 rfl dL_law_328 (by decide) ?_
    exact next M2 hI
set_option maxHeartbeats 4000000 in
set_option maxRecDepth 100000 in
theorem lw_case_5 {p : Program} {l : Launch} {e : Env} {s : State} {m : MethodId} {below : List Frame} {meth : Method} {c : Code} {b L : Nat} {xs : Nat → Int32} {X : GE} (S : LX p s m meth c b L xs X) {Inv : MM → Prop} (hs : St_trim Inv) (M : MM) (hI : Inv M) (i : Nat) (hi : i + 6 ≤ L) (next : ∀ M2 : MM, Inv M2 → LV p l e s m b below meth c X M2 1325 [(0, .ref b), (1, .ref (X.2.2 0)), (2, .ref (X.2.2 83)), (3, .int (nI i))] []) : LV p l e s m b below meth c X M 333 [(0, .ref b), (1, .ref (X.2.2 0)), (2, .ref (X.2.2 83)), (3, .int (nI i))] [] := by
    have h1 : vp_in (nI i + (1 : Int32)) L := lw_in S (k := 1) (by omega)
    obtain ⟨r, M1, M2, e1, e2, hI⟩ := hs M hI (xs (nI i + (1 : Int32)).toNatClampNeg)
    refine lw_aload_n 333 S 1 1 dL_law_333 rfl rfl ?_
    refine lw_aload_n 334 S 0 0 dL_law_334 rfl rfl ?_
    refine lw_iload_n 335 S 3 3 dL_law_335 rfl rfl ?_
    refine lw_iconst 336 S (1 : Int32) dL_law_336 (by decide) ?_
    refine lw_iadd 337 S dL_law_337 ?_
    refine lw_sld 338 S (h1) dL_law_338 ?_
    refine lw_ci 339 S (As := [.int (xs (nI i + (1 : Int32)).toNatClampNeg)]) (rest := []) (c_X10_trim l X M (xs (nI i + (1 : Int32)).toNatClampNeg) r M1 e1) (hO_0 X) rfl (cwV 1 (lw_hts S) gL_law_X10_trim rfl rfl rfl (by decide +kernel) ⟨by decide +kernel, by decide +kernel⟩) rfl rfl (Nat.le_of_ble_eq_true rfl) dL_law_339 ?_
    refine lw_aload_n 342 S 2 2 dL_law_342 rfl rfl ?_
    refine lw_aload_n 343 S 0 0 dL_law_343 rfl rfl ?_
    refine lw_iload_n 344 S 3 3 dL_law_344 rfl rfl ?_
    refine lw_iconst 345 S (1 : Int32) dL_law_345 (by decide) ?_
    refine lw_iadd 346 S dL_law_346 ?_
    refine lw_sld 347 S (h1) dL_law_347 ?_
    refine lw_ci 348 S (As := [.int (xs (nI i + (1 : Int32)).toNatClampNeg)]) (rest := [.int r]) (c_X11_trim l X M1 (xs (nI i + (1 : Int32)).toNatClampNeg) r M2 e2) (hO_83 X) rfl (cwV 1 (lw_hts S) gL_law_X11_trim rfl rfl rfl (by decide +kernel) ⟨by decide +kernel, by decide +kernel⟩) rfl rfl (Nat.le_of_ble_eq_true rfl) dL_law_348 ?_
    refine lw_eqT 351 S 1325 rfl dL_law_351 (by decide) ?_
    exact next M2 hI
set_option maxHeartbeats 4000000 in
set_option maxRecDepth 100000 in
theorem lw_case_6 {p : Program} {l : Launch} {e : Env} {s : State} {m : MethodId} {below : List Frame} {meth : Method} {c : Code} {b L : Nat} {xs : Nat → Int32} {X : GE} (S : LX p s m meth c b L xs X) {Inv : MM → Prop} (hs : St_fly Inv) (M : MM) (hI : Inv M) (i : Nat) (hi : i + 6 ≤ L) (next : ∀ M2 : MM, Inv M2 → LV p l e s m b below meth c X M2 1325 [(0, .ref b), (1, .ref (X.2.2 0)), (2, .ref (X.2.2 83)), (3, .int (nI i))] []) : LV p l e s m b below meth c X M 356 [(0, .ref b), (1, .ref (X.2.2 0)), (2, .ref (X.2.2 83)), (3, .int (nI i))] [] := by
    have h1 : vp_in (nI i + (1 : Int32)) L := lw_in S (k := 1) (by omega)
    have h2 : vp_in (nI i + (2 : Int32)) L := lw_in S (k := 2) (by omega)
    obtain ⟨r, M1, M2, e1, e2, hI⟩ := hs M hI (xs (nI i + (1 : Int32)).toNatClampNeg) (xs (nI i + (2 : Int32)).toNatClampNeg)
    refine lw_aload_n 356 S 1 1 dL_law_356 rfl rfl ?_
    refine lw_aload_n 357 S 0 0 dL_law_357 rfl rfl ?_
    refine lw_iload_n 358 S 3 3 dL_law_358 rfl rfl ?_
    refine lw_iconst 359 S (1 : Int32) dL_law_359 (by decide) ?_
    refine lw_iadd 360 S dL_law_360 ?_
    refine lw_sld 361 S (h1) dL_law_361 ?_
    refine lw_aload_n 362 S 0 0 dL_law_362 rfl rfl ?_
    refine lw_iload_n 363 S 3 3 dL_law_363 rfl rfl ?_
    refine lw_iconst 364 S (2 : Int32) dL_law_364 (by decide) ?_
    refine lw_iadd 365 S dL_law_365 ?_
    refine lw_sld 366 S (h2) dL_law_366 ?_
    refine lw_ci 367 S (As := [.int (xs (nI i + (1 : Int32)).toNatClampNeg), .int (xs (nI i + (2 : Int32)).toNatClampNeg)]) (rest := []) (c_X10_fly l X M (xs (nI i + (1 : Int32)).toNatClampNeg) (xs (nI i + (2 : Int32)).toNatClampNeg) r M1 e1) (hO_0 X) rfl (cwV 2 (lw_hts S) gL_law_X10_fly rfl rfl rfl (by decide +kernel) ⟨by decide +kernel, by decide +kernel⟩) rfl rfl (Nat.le_of_ble_eq_true rfl) dL_law_367 ?_
    refine lw_aload_n 370 S 2 2 dL_law_370 rfl rfl ?_
    refine lw_aload_n 371 S 0 0 dL_law_371 rfl rfl ?_
    refine lw_iload_n 372 S 3 3 dL_law_372 rfl rfl ?_
    refine lw_iconst 373 S (1 : Int32) dL_law_373 (by decide) ?_
    refine lw_iadd 374 S dL_law_374 ?_
    refine lw_sld 375 S (h1) dL_law_375 ?_
    refine lw_aload_n 376 S 0 0 dL_law_376 rfl rfl ?_
    refine lw_iload_n 377 S 3 3 dL_law_377 rfl rfl ?_
    refine lw_iconst 378 S (2 : Int32) dL_law_378 (by decide) ?_
    refine lw_iadd 379 S dL_law_379 ?_
    refine lw_sld 380 S (h2) dL_law_380 ?_
    refine lw_ci 381 S (As := [.int (xs (nI i + (1 : Int32)).toNatClampNeg), .int (xs (nI i + (2 : Int32)).toNatClampNeg)]) (rest := [.int r]) (c_X11_fly l X M1 (xs (nI i + (1 : Int32)).toNatClampNeg) (xs (nI i + (2 : Int32)).toNatClampNeg) r M2 e2) (hO_83 X) rfl (cwV 2 (lw_hts S) gL_law_X11_fly rfl rfl rfl (by decide +kernel) ⟨by decide +kernel, by decide +kernel⟩) rfl rfl (Nat.le_of_ble_eq_true rfl) dL_law_381 ?_
    refine lw_eqT 384 S 1325 rfl dL_law_384 (by decide) ?_
    exact next M2 hI
set_option maxHeartbeats 4000000 in
set_option maxRecDepth 100000 in
theorem lw_case_7 {p : Program} {l : Launch} {e : Env} {s : State} {m : MethodId} {below : List Frame} {meth : Method} {c : Code} {b L : Nat} {xs : Nat → Int32} {X : GE} (S : LX p s m meth c b L xs X) {Inv : MM → Prop} (hs : St_cue Inv) (M : MM) (hI : Inv M) (i : Nat) (hi : i + 6 ≤ L) (next : ∀ M2 : MM, Inv M2 → LV p l e s m b below meth c X M2 1325 [(0, .ref b), (1, .ref (X.2.2 0)), (2, .ref (X.2.2 83)), (3, .int (nI i))] []) : LV p l e s m b below meth c X M 389 [(0, .ref b), (1, .ref (X.2.2 0)), (2, .ref (X.2.2 83)), (3, .int (nI i))] [] := by
    have h1 : vp_in (nI i + (1 : Int32)) L := lw_in S (k := 1) (by omega)
    have h2 : vp_in (nI i + (2 : Int32)) L := lw_in S (k := 2) (by omega)
    have h3 : vp_in (nI i + (3 : Int32)) L := lw_in S (k := 3) (by omega)
    have h4 : vp_in (nI i + (4 : Int32)) L := lw_in S (k := 4) (by omega)
    obtain ⟨r, M1, M2, e1, e2, hI⟩ := hs M hI (xs (nI i + (1 : Int32)).toNatClampNeg) (xs (nI i + (2 : Int32)).toNatClampNeg) (xs (nI i + (3 : Int32)).toNatClampNeg) (xs (nI i + (4 : Int32)).toNatClampNeg)
    refine lw_aload_n 389 S 1 1 dL_law_389 rfl rfl ?_
    refine lw_aload_n 390 S 0 0 dL_law_390 rfl rfl ?_
    refine lw_iload_n 391 S 3 3 dL_law_391 rfl rfl ?_
    refine lw_iconst 392 S (1 : Int32) dL_law_392 (by decide) ?_
    refine lw_iadd 393 S dL_law_393 ?_
    refine lw_sld 394 S (h1) dL_law_394 ?_
    refine lw_aload_n 395 S 0 0 dL_law_395 rfl rfl ?_
    refine lw_iload_n 396 S 3 3 dL_law_396 rfl rfl ?_
    refine lw_iconst 397 S (2 : Int32) dL_law_397 (by decide) ?_
    refine lw_iadd 398 S dL_law_398 ?_
    refine lw_sld 399 S (h2) dL_law_399 ?_
    refine lw_aload_n 400 S 0 0 dL_law_400 rfl rfl ?_
    refine lw_iload_n 401 S 3 3 dL_law_401 rfl rfl ?_
    refine lw_iconst 402 S (3 : Int32) dL_law_402 (by decide) ?_
    refine lw_iadd 403 S dL_law_403 ?_
    refine lw_sld 404 S (h3) dL_law_404 ?_
    refine lw_aload_n 405 S 0 0 dL_law_405 rfl rfl ?_
    refine lw_iload_n 406 S 3 3 dL_law_406 rfl rfl ?_
    refine lw_iconst 407 S (4 : Int32) dL_law_407 (by decide) ?_
    refine lw_iadd 408 S dL_law_408 ?_
    refine lw_sld 409 S (h4) dL_law_409 ?_
    refine lw_ci 410 S (As := [.int (xs (nI i + (1 : Int32)).toNatClampNeg), .int (xs (nI i + (2 : Int32)).toNatClampNeg), .int (xs (nI i + (3 : Int32)).toNatClampNeg), .int (xs (nI i + (4 : Int32)).toNatClampNeg)]) (rest := []) (c_X10_cue l X M (xs (nI i + (1 : Int32)).toNatClampNeg) (xs (nI i + (2 : Int32)).toNatClampNeg) (xs (nI i + (3 : Int32)).toNatClampNeg) (xs (nI i + (4 : Int32)).toNatClampNeg) r M1 e1) (hO_0 X) rfl (cwV 4 (lw_hts S) gL_law_X10_cue rfl rfl rfl (by decide +kernel) ⟨by decide +kernel, by decide +kernel⟩) rfl rfl (Nat.le_of_ble_eq_true rfl) dL_law_410 ?_
    refine lw_aload_n 413 S 2 2 dL_law_413 rfl rfl ?_
    refine lw_aload_n 414 S 0 0 dL_law_414 rfl rfl ?_
    refine lw_iload_n 415 S 3 3 dL_law_415 rfl rfl ?_
    refine lw_iconst 416 S (1 : Int32) dL_law_416 (by decide) ?_
    refine lw_iadd 417 S dL_law_417 ?_
    refine lw_sld 418 S (h1) dL_law_418 ?_
    refine lw_aload_n 419 S 0 0 dL_law_419 rfl rfl ?_
    refine lw_iload_n 420 S 3 3 dL_law_420 rfl rfl ?_
    refine lw_iconst 421 S (2 : Int32) dL_law_421 (by decide) ?_
    refine lw_iadd 422 S dL_law_422 ?_
    refine lw_sld 423 S (h2) dL_law_423 ?_
    refine lw_aload_n 424 S 0 0 dL_law_424 rfl rfl ?_
    refine lw_iload_n 425 S 3 3 dL_law_425 rfl rfl ?_
    refine lw_iconst 426 S (3 : Int32) dL_law_426 (by decide) ?_
    refine lw_iadd 427 S dL_law_427 ?_
    refine lw_sld 428 S (h3) dL_law_428 ?_
    refine lw_aload_n 429 S 0 0 dL_law_429 rfl rfl ?_
    refine lw_iload_n 430 S 3 3 dL_law_430 rfl rfl ?_
    refine lw_iconst 431 S (4 : Int32) dL_law_431 (by decide) ?_
    refine lw_iadd 432 S dL_law_432 ?_
    refine lw_sld 433 S (h4) dL_law_433 ?_
    refine lw_ci 434 S (As := [.int (xs (nI i + (1 : Int32)).toNatClampNeg), .int (xs (nI i + (2 : Int32)).toNatClampNeg), .int (xs (nI i + (3 : Int32)).toNatClampNeg), .int (xs (nI i + (4 : Int32)).toNatClampNeg)]) (rest := [.int r]) (c_X11_cue l X M1 (xs (nI i + (1 : Int32)).toNatClampNeg) (xs (nI i + (2 : Int32)).toNatClampNeg) (xs (nI i + (3 : Int32)).toNatClampNeg) (xs (nI i + (4 : Int32)).toNatClampNeg) r M2 e2) (hO_83 X) rfl (cwV 4 (lw_hts S) gL_law_X11_cue rfl rfl rfl (by decide +kernel) ⟨by decide +kernel, by decide +kernel⟩) rfl rfl (Nat.le_of_ble_eq_true rfl) dL_law_434 ?_
    refine lw_eqT 437 S 1325 rfl dL_law_437 (by decide) ?_
    exact next M2 hI
set_option maxHeartbeats 4000000 in
set_option maxRecDepth 100000 in
theorem lw_case_8 {p : Program} {l : Launch} {e : Env} {s : State} {m : MethodId} {below : List Frame} {meth : Method} {c : Code} {b L : Nat} {xs : Nat → Int32} {X : GE} (S : LX p s m meth c b L xs X) {Inv : MM → Prop} (hs : St_hang Inv) (M : MM) (hI : Inv M) (i : Nat) (hi : i + 6 ≤ L) (next : ∀ M2 : MM, Inv M2 → LV p l e s m b below meth c X M2 1325 [(0, .ref b), (1, .ref (X.2.2 0)), (2, .ref (X.2.2 83)), (3, .int (nI i))] []) : LV p l e s m b below meth c X M 442 [(0, .ref b), (1, .ref (X.2.2 0)), (2, .ref (X.2.2 83)), (3, .int (nI i))] [] := by
    have h1 : vp_in (nI i + (1 : Int32)) L := lw_in S (k := 1) (by omega)
    have h2 : vp_in (nI i + (2 : Int32)) L := lw_in S (k := 2) (by omega)
    obtain ⟨r, M1, M2, e1, e2, hI⟩ := hs M hI (xs (nI i + (1 : Int32)).toNatClampNeg) (xs (nI i + (2 : Int32)).toNatClampNeg)
    refine lw_aload_n 442 S 1 1 dL_law_442 rfl rfl ?_
    refine lw_aload_n 443 S 0 0 dL_law_443 rfl rfl ?_
    refine lw_iload_n 444 S 3 3 dL_law_444 rfl rfl ?_
    refine lw_iconst 445 S (1 : Int32) dL_law_445 (by decide) ?_
    refine lw_iadd 446 S dL_law_446 ?_
    refine lw_sld 447 S (h1) dL_law_447 ?_
    refine lw_aload_n 448 S 0 0 dL_law_448 rfl rfl ?_
    refine lw_iload_n 449 S 3 3 dL_law_449 rfl rfl ?_
    refine lw_iconst 450 S (2 : Int32) dL_law_450 (by decide) ?_
    refine lw_iadd 451 S dL_law_451 ?_
    refine lw_sld 452 S (h2) dL_law_452 ?_
    refine lw_ci 453 S (As := [.int (xs (nI i + (1 : Int32)).toNatClampNeg), .int (xs (nI i + (2 : Int32)).toNatClampNeg)]) (rest := []) (c_X10_hang l X M (xs (nI i + (1 : Int32)).toNatClampNeg) (xs (nI i + (2 : Int32)).toNatClampNeg) r M1 e1) (hO_0 X) rfl (cwV 2 (lw_hts S) gL_law_X10_hang rfl rfl rfl (by decide +kernel) ⟨by decide +kernel, by decide +kernel⟩) rfl rfl (Nat.le_of_ble_eq_true rfl) dL_law_453 ?_
    refine lw_aload_n 456 S 2 2 dL_law_456 rfl rfl ?_
    refine lw_aload_n 457 S 0 0 dL_law_457 rfl rfl ?_
    refine lw_iload_n 458 S 3 3 dL_law_458 rfl rfl ?_
    refine lw_iconst 459 S (1 : Int32) dL_law_459 (by decide) ?_
    refine lw_iadd 460 S dL_law_460 ?_
    refine lw_sld 461 S (h1) dL_law_461 ?_
    refine lw_aload_n 462 S 0 0 dL_law_462 rfl rfl ?_
    refine lw_iload_n 463 S 3 3 dL_law_463 rfl rfl ?_
    refine lw_iconst 464 S (2 : Int32) dL_law_464 (by decide) ?_
    refine lw_iadd 465 S dL_law_465 ?_
    refine lw_sld 466 S (h2) dL_law_466 ?_
    refine lw_ci 467 S (As := [.int (xs (nI i + (1 : Int32)).toNatClampNeg), .int (xs (nI i + (2 : Int32)).toNatClampNeg)]) (rest := [.int r]) (c_X11_hang l X M1 (xs (nI i + (1 : Int32)).toNatClampNeg) (xs (nI i + (2 : Int32)).toNatClampNeg) r M2 e2) (hO_83 X) rfl (cwV 2 (lw_hts S) gL_law_X11_hang rfl rfl rfl (by decide +kernel) ⟨by decide +kernel, by decide +kernel⟩) rfl rfl (Nat.le_of_ble_eq_true rfl) dL_law_467 ?_
    refine lw_eqT 470 S 1325 rfl dL_law_470 (by decide) ?_
    exact next M2 hI
set_option maxHeartbeats 4000000 in
set_option maxRecDepth 100000 in
theorem lw_case_9 {p : Program} {l : Launch} {e : Env} {s : State} {m : MethodId} {below : List Frame} {meth : Method} {c : Code} {b L : Nat} {xs : Nat → Int32} {X : GE} (S : LX p s m meth c b L xs X) {Inv : MM → Prop} (hs : St_brick Inv) (M : MM) (hI : Inv M) (i : Nat) (hi : i + 6 ≤ L) (next : ∀ M2 : MM, Inv M2 → LV p l e s m b below meth c X M2 1325 [(0, .ref b), (1, .ref (X.2.2 0)), (2, .ref (X.2.2 83)), (3, .int (nI i))] []) : LV p l e s m b below meth c X M 475 [(0, .ref b), (1, .ref (X.2.2 0)), (2, .ref (X.2.2 83)), (3, .int (nI i))] [] := by
    have h1 : vp_in (nI i + (1 : Int32)) L := lw_in S (k := 1) (by omega)
    have h2 : vp_in (nI i + (2 : Int32)) L := lw_in S (k := 2) (by omega)
    obtain ⟨r, M1, M2, e1, e2, hI⟩ := hs M hI (xs (nI i + (1 : Int32)).toNatClampNeg) (xs (nI i + (2 : Int32)).toNatClampNeg)
    refine lw_aload_n 475 S 1 1 dL_law_475 rfl rfl ?_
    refine lw_aload_n 476 S 0 0 dL_law_476 rfl rfl ?_
    refine lw_iload_n 477 S 3 3 dL_law_477 rfl rfl ?_
    refine lw_iconst 478 S (1 : Int32) dL_law_478 (by decide) ?_
    refine lw_iadd 479 S dL_law_479 ?_
    refine lw_sld 480 S (h1) dL_law_480 ?_
    refine lw_aload_n 481 S 0 0 dL_law_481 rfl rfl ?_
    refine lw_iload_n 482 S 3 3 dL_law_482 rfl rfl ?_
    refine lw_iconst 483 S (2 : Int32) dL_law_483 (by decide) ?_
    refine lw_iadd 484 S dL_law_484 ?_
    refine lw_sld 485 S (h2) dL_law_485 ?_
    refine lw_ci 486 S (As := [.int (xs (nI i + (1 : Int32)).toNatClampNeg), .int (xs (nI i + (2 : Int32)).toNatClampNeg)]) (rest := []) (c_X10_brick l X M (xs (nI i + (1 : Int32)).toNatClampNeg) (xs (nI i + (2 : Int32)).toNatClampNeg) r M1 e1) (hO_0 X) rfl (cwV 2 (lw_hts S) gL_law_X10_brick rfl rfl rfl (by decide +kernel) ⟨by decide +kernel, by decide +kernel⟩) rfl rfl (Nat.le_of_ble_eq_true rfl) dL_law_486 ?_
    refine lw_aload_n 489 S 2 2 dL_law_489 rfl rfl ?_
    refine lw_aload_n 490 S 0 0 dL_law_490 rfl rfl ?_
    refine lw_iload_n 491 S 3 3 dL_law_491 rfl rfl ?_
    refine lw_iconst 492 S (1 : Int32) dL_law_492 (by decide) ?_
    refine lw_iadd 493 S dL_law_493 ?_
    refine lw_sld 494 S (h1) dL_law_494 ?_
    refine lw_aload_n 495 S 0 0 dL_law_495 rfl rfl ?_
    refine lw_iload_n 496 S 3 3 dL_law_496 rfl rfl ?_
    refine lw_iconst 497 S (2 : Int32) dL_law_497 (by decide) ?_
    refine lw_iadd 498 S dL_law_498 ?_
    refine lw_sld 499 S (h2) dL_law_499 ?_
    refine lw_ci 500 S (As := [.int (xs (nI i + (1 : Int32)).toNatClampNeg), .int (xs (nI i + (2 : Int32)).toNatClampNeg)]) (rest := [.int r]) (c_X11_brick l X M1 (xs (nI i + (1 : Int32)).toNatClampNeg) (xs (nI i + (2 : Int32)).toNatClampNeg) r M2 e2) (hO_83 X) rfl (cwV 2 (lw_hts S) gL_law_X11_brick rfl rfl rfl (by decide +kernel) ⟨by decide +kernel, by decide +kernel⟩) rfl rfl (Nat.le_of_ble_eq_true rfl) dL_law_500 ?_
    refine lw_eqT 503 S 1325 rfl dL_law_503 (by decide) ?_
    exact next M2 hI
set_option maxHeartbeats 4000000 in
set_option maxRecDepth 100000 in
theorem lw_case_10 {p : Program} {l : Launch} {e : Env} {s : State} {m : MethodId} {below : List Frame} {meth : Method} {c : Code} {b L : Nat} {xs : Nat → Int32} {X : GE} (S : LX p s m meth c b L xs X) {Inv : MM → Prop} (hs : St_undo Inv) (M : MM) (hI : Inv M) (i : Nat) (hi : i + 6 ≤ L) (next : ∀ M2 : MM, Inv M2 → LV p l e s m b below meth c X M2 1325 [(0, .ref b), (1, .ref (X.2.2 0)), (2, .ref (X.2.2 83)), (3, .int (nI i))] []) : LV p l e s m b below meth c X M 508 [(0, .ref b), (1, .ref (X.2.2 0)), (2, .ref (X.2.2 83)), (3, .int (nI i))] [] := by
    obtain ⟨r, M1, M2, e1, e2, hI⟩ := hs M hI
    refine lw_aload_n 508 S 1 1 dL_law_508 rfl rfl ?_
    refine lw_ci 509 S (As := []) (rest := []) (c_X10_undo l X M r M1 e1) (hO_0 X) rfl (cwV 0 (lw_hts S) gL_law_X10_undo rfl rfl rfl (by decide +kernel) ⟨by decide +kernel, by decide +kernel⟩) rfl rfl (Nat.le_of_ble_eq_true rfl) dL_law_509 ?_
    refine lw_aload_n 512 S 2 2 dL_law_512 rfl rfl ?_
    refine lw_ci 513 S (As := []) (rest := [.int r]) (c_X11_undo l X M1 r M2 e2) (hO_83 X) rfl (cwV 0 (lw_hts S) gL_law_X11_undo rfl rfl rfl (by decide +kernel) ⟨by decide +kernel, by decide +kernel⟩) rfl rfl (Nat.le_of_ble_eq_true rfl) dL_law_513 ?_
    refine lw_eqT 516 S 1325 rfl dL_law_516 (by decide) ?_
    exact next M2 hI
set_option maxHeartbeats 4000000 in
set_option maxRecDepth 100000 in
theorem lw_case_11 {p : Program} {l : Launch} {e : Env} {s : State} {m : MethodId} {below : List Frame} {meth : Method} {c : Code} {b L : Nat} {xs : Nat → Int32} {X : GE} (S : LX p s m meth c b L xs X) {Inv : MM → Prop} (hs : St_keep Inv) (M : MM) (hI : Inv M) (i : Nat) (hi : i + 6 ≤ L) (next : ∀ M2 : MM, Inv M2 → LV p l e s m b below meth c X M2 1325 [(0, .ref b), (1, .ref (X.2.2 0)), (2, .ref (X.2.2 83)), (3, .int (nI i))] []) : LV p l e s m b below meth c X M 521 [(0, .ref b), (1, .ref (X.2.2 0)), (2, .ref (X.2.2 83)), (3, .int (nI i))] [] := by
    have h1 : vp_in (nI i + (1 : Int32)) L := lw_in S (k := 1) (by omega)
    obtain ⟨r, M1, M2, e1, e2, hI⟩ := hs M hI (xs (nI i + (1 : Int32)).toNatClampNeg)
    refine lw_aload_n 521 S 1 1 dL_law_521 rfl rfl ?_
    refine lw_aload_n 522 S 0 0 dL_law_522 rfl rfl ?_
    refine lw_iload_n 523 S 3 3 dL_law_523 rfl rfl ?_
    refine lw_iconst 524 S (1 : Int32) dL_law_524 (by decide) ?_
    refine lw_iadd 525 S dL_law_525 ?_
    refine lw_sld 526 S (h1) dL_law_526 ?_
    refine lw_ci 527 S (As := [.int (xs (nI i + (1 : Int32)).toNatClampNeg)]) (rest := []) (c_X10_keep l X M (xs (nI i + (1 : Int32)).toNatClampNeg) r M1 e1) (hO_0 X) rfl (cwV 1 (lw_hts S) gL_law_X10_keep rfl rfl rfl (by decide +kernel) ⟨by decide +kernel, by decide +kernel⟩) rfl rfl (Nat.le_of_ble_eq_true rfl) dL_law_527 ?_
    refine lw_aload_n 530 S 2 2 dL_law_530 rfl rfl ?_
    refine lw_aload_n 531 S 0 0 dL_law_531 rfl rfl ?_
    refine lw_iload_n 532 S 3 3 dL_law_532 rfl rfl ?_
    refine lw_iconst 533 S (1 : Int32) dL_law_533 (by decide) ?_
    refine lw_iadd 534 S dL_law_534 ?_
    refine lw_sld 535 S (h1) dL_law_535 ?_
    refine lw_ci 536 S (As := [.int (xs (nI i + (1 : Int32)).toNatClampNeg)]) (rest := [.int r]) (c_X11_keep l X M1 (xs (nI i + (1 : Int32)).toNatClampNeg) r M2 e2) (hO_83 X) rfl (cwV 1 (lw_hts S) gL_law_X11_keep rfl rfl rfl (by decide +kernel) ⟨by decide +kernel, by decide +kernel⟩) rfl rfl (Nat.le_of_ble_eq_true rfl) dL_law_536 ?_
    refine lw_eqT 539 S 1325 rfl dL_law_539 (by decide) ?_
    exact next M2 hI
set_option maxHeartbeats 4000000 in
set_option maxRecDepth 100000 in
theorem lw_case_12 {p : Program} {l : Launch} {e : Env} {s : State} {m : MethodId} {below : List Frame} {meth : Method} {c : Code} {b L : Nat} {xs : Nat → Int32} {X : GE} (S : LX p s m meth c b L xs X) {Inv : MM → Prop} (hs : St_restore Inv) (M : MM) (hI : Inv M) (i : Nat) (hi : i + 6 ≤ L) (next : ∀ M2 : MM, Inv M2 → LV p l e s m b below meth c X M2 1325 [(0, .ref b), (1, .ref (X.2.2 0)), (2, .ref (X.2.2 83)), (3, .int (nI i))] []) : LV p l e s m b below meth c X M 544 [(0, .ref b), (1, .ref (X.2.2 0)), (2, .ref (X.2.2 83)), (3, .int (nI i))] [] := by
    have h1 : vp_in (nI i + (1 : Int32)) L := lw_in S (k := 1) (by omega)
    obtain ⟨r, M1, M2, e1, e2, hI⟩ := hs M hI (xs (nI i + (1 : Int32)).toNatClampNeg)
    refine lw_aload_n 544 S 1 1 dL_law_544 rfl rfl ?_
    refine lw_aload_n 545 S 0 0 dL_law_545 rfl rfl ?_
    refine lw_iload_n 546 S 3 3 dL_law_546 rfl rfl ?_
    refine lw_iconst 547 S (1 : Int32) dL_law_547 (by decide) ?_
    refine lw_iadd 548 S dL_law_548 ?_
    refine lw_sld 549 S (h1) dL_law_549 ?_
    refine lw_ci 550 S (As := [.int (xs (nI i + (1 : Int32)).toNatClampNeg)]) (rest := []) (c_X10_restore l X M (xs (nI i + (1 : Int32)).toNatClampNeg) r M1 e1) (hO_0 X) rfl (cwV 1 (lw_hts S) gL_law_X10_restore rfl rfl rfl (by decide +kernel) ⟨by decide +kernel, by decide +kernel⟩) rfl rfl (Nat.le_of_ble_eq_true rfl) dL_law_550 ?_
    refine lw_aload_n 553 S 2 2 dL_law_553 rfl rfl ?_
    refine lw_aload_n 554 S 0 0 dL_law_554 rfl rfl ?_
    refine lw_iload_n 555 S 3 3 dL_law_555 rfl rfl ?_
    refine lw_iconst 556 S (1 : Int32) dL_law_556 (by decide) ?_
    refine lw_iadd 557 S dL_law_557 ?_
    refine lw_sld 558 S (h1) dL_law_558 ?_
    refine lw_ci 559 S (As := [.int (xs (nI i + (1 : Int32)).toNatClampNeg)]) (rest := [.int r]) (c_X11_restore l X M1 (xs (nI i + (1 : Int32)).toNatClampNeg) r M2 e2) (hO_83 X) rfl (cwV 1 (lw_hts S) gL_law_X11_restore rfl rfl rfl (by decide +kernel) ⟨by decide +kernel, by decide +kernel⟩) rfl rfl (Nat.le_of_ble_eq_true rfl) dL_law_559 ?_
    refine lw_eqT 562 S 1325 rfl dL_law_562 (by decide) ?_
    exact next M2 hI
set_option maxHeartbeats 4000000 in
set_option maxRecDepth 100000 in
theorem lw_case_13 {p : Program} {l : Launch} {e : Env} {s : State} {m : MethodId} {below : List Frame} {meth : Method} {c : Code} {b L : Nat} {xs : Nat → Int32} {X : GE} (S : LX p s m meth c b L xs X) {Inv : MM → Prop} (hs : St_act Inv) (M : MM) (hI : Inv M) (i : Nat) (hi : i + 6 ≤ L) (next : ∀ M2 : MM, Inv M2 → LV p l e s m b below meth c X M2 1325 [(0, .ref b), (1, .ref (X.2.2 0)), (2, .ref (X.2.2 83)), (3, .int (nI i))] []) : LV p l e s m b below meth c X M 567 [(0, .ref b), (1, .ref (X.2.2 0)), (2, .ref (X.2.2 83)), (3, .int (nI i))] [] := by
    have h1 : vp_in (nI i + (1 : Int32)) L := lw_in S (k := 1) (by omega)
    have h2 : vp_in (nI i + (2 : Int32)) L := lw_in S (k := 2) (by omega)
    have h3 : vp_in (nI i + (3 : Int32)) L := lw_in S (k := 3) (by omega)
    have h4 : vp_in (nI i + (4 : Int32)) L := lw_in S (k := 4) (by omega)
    have h5 : vp_in (nI i + (5 : Int32)) L := lw_in S (k := 5) (by omega)
    obtain ⟨r, M1, M2, e1, e2, hI⟩ := hs M hI (xs (nI i + (1 : Int32)).toNatClampNeg) (xs (nI i + (2 : Int32)).toNatClampNeg) (xs (nI i + (3 : Int32)).toNatClampNeg) (xs (nI i + (4 : Int32)).toNatClampNeg) (xs (nI i + (5 : Int32)).toNatClampNeg)
    refine lw_aload_n 567 S 1 1 dL_law_567 rfl rfl ?_
    refine lw_aload_n 568 S 0 0 dL_law_568 rfl rfl ?_
    refine lw_iload_n 569 S 3 3 dL_law_569 rfl rfl ?_
    refine lw_iconst 570 S (1 : Int32) dL_law_570 (by decide) ?_
    refine lw_iadd 571 S dL_law_571 ?_
    refine lw_sld 572 S (h1) dL_law_572 ?_
    refine lw_aload_n 573 S 0 0 dL_law_573 rfl rfl ?_
    refine lw_iload_n 574 S 3 3 dL_law_574 rfl rfl ?_
    refine lw_iconst 575 S (2 : Int32) dL_law_575 (by decide) ?_
    refine lw_iadd 576 S dL_law_576 ?_
    refine lw_sld 577 S (h2) dL_law_577 ?_
    refine lw_aload_n 578 S 0 0 dL_law_578 rfl rfl ?_
    refine lw_iload_n 579 S 3 3 dL_law_579 rfl rfl ?_
    refine lw_iconst 580 S (3 : Int32) dL_law_580 (by decide) ?_
    refine lw_iadd 581 S dL_law_581 ?_
    refine lw_sld 582 S (h3) dL_law_582 ?_
    refine lw_aload_n 583 S 0 0 dL_law_583 rfl rfl ?_
    refine lw_iload_n 584 S 3 3 dL_law_584 rfl rfl ?_
    refine lw_iconst 585 S (4 : Int32) dL_law_585 (by decide) ?_
    refine lw_iadd 586 S dL_law_586 ?_
    refine lw_sld 587 S (h4) dL_law_587 ?_
    refine lw_aload_n 588 S 0 0 dL_law_588 rfl rfl ?_
    refine lw_iload_n 589 S 3 3 dL_law_589 rfl rfl ?_
    refine lw_iconst 590 S (5 : Int32) dL_law_590 (by decide) ?_
    refine lw_iadd 591 S dL_law_591 ?_
    refine lw_sld 592 S (h5) dL_law_592 ?_
    refine lw_ci 593 S (As := [.int (xs (nI i + (1 : Int32)).toNatClampNeg), .int (xs (nI i + (2 : Int32)).toNatClampNeg), .int (xs (nI i + (3 : Int32)).toNatClampNeg), .int (xs (nI i + (4 : Int32)).toNatClampNeg), .int (xs (nI i + (5 : Int32)).toNatClampNeg)]) (rest := []) (c_X10_act l X M (xs (nI i + (1 : Int32)).toNatClampNeg) (xs (nI i + (2 : Int32)).toNatClampNeg) (xs (nI i + (3 : Int32)).toNatClampNeg) (xs (nI i + (4 : Int32)).toNatClampNeg) (xs (nI i + (5 : Int32)).toNatClampNeg) r M1 e1) (hO_0 X) rfl (cwV 5 (lw_hts S) gL_law_X10_act rfl rfl rfl (by decide +kernel) ⟨by decide +kernel, by decide +kernel⟩) rfl rfl (Nat.le_of_ble_eq_true rfl) dL_law_593 ?_
    refine lw_aload_n 596 S 2 2 dL_law_596 rfl rfl ?_
    refine lw_aload_n 597 S 0 0 dL_law_597 rfl rfl ?_
    refine lw_iload_n 598 S 3 3 dL_law_598 rfl rfl ?_
    refine lw_iconst 599 S (1 : Int32) dL_law_599 (by decide) ?_
    refine lw_iadd 600 S dL_law_600 ?_
    refine lw_sld 601 S (h1) dL_law_601 ?_
    refine lw_aload_n 602 S 0 0 dL_law_602 rfl rfl ?_
    refine lw_iload_n 603 S 3 3 dL_law_603 rfl rfl ?_
    refine lw_iconst 604 S (2 : Int32) dL_law_604 (by decide) ?_
    refine lw_iadd 605 S dL_law_605 ?_
    refine lw_sld 606 S (h2) dL_law_606 ?_
    refine lw_aload_n 607 S 0 0 dL_law_607 rfl rfl ?_
    refine lw_iload_n 608 S 3 3 dL_law_608 rfl rfl ?_
    refine lw_iconst 609 S (3 : Int32) dL_law_609 (by decide) ?_
    refine lw_iadd 610 S dL_law_610 ?_
    refine lw_sld 611 S (h3) dL_law_611 ?_
    refine lw_aload_n 612 S 0 0 dL_law_612 rfl rfl ?_
    refine lw_iload_n 613 S 3 3 dL_law_613 rfl rfl ?_
    refine lw_iconst 614 S (4 : Int32) dL_law_614 (by decide) ?_
    refine lw_iadd 615 S dL_law_615 ?_
    refine lw_sld 616 S (h4) dL_law_616 ?_
    refine lw_aload_n 617 S 0 0 dL_law_617 rfl rfl ?_
    refine lw_iload_n 618 S 3 3 dL_law_618 rfl rfl ?_
    refine lw_iconst 619 S (5 : Int32) dL_law_619 (by decide) ?_
    refine lw_iadd 620 S dL_law_620 ?_
    refine lw_sld 621 S (h5) dL_law_621 ?_
    refine lw_ci 622 S (As := [.int (xs (nI i + (1 : Int32)).toNatClampNeg), .int (xs (nI i + (2 : Int32)).toNatClampNeg), .int (xs (nI i + (3 : Int32)).toNatClampNeg), .int (xs (nI i + (4 : Int32)).toNatClampNeg), .int (xs (nI i + (5 : Int32)).toNatClampNeg)]) (rest := [.int r]) (c_X11_act l X M1 (xs (nI i + (1 : Int32)).toNatClampNeg) (xs (nI i + (2 : Int32)).toNatClampNeg) (xs (nI i + (3 : Int32)).toNatClampNeg) (xs (nI i + (4 : Int32)).toNatClampNeg) (xs (nI i + (5 : Int32)).toNatClampNeg) r M2 e2) (hO_83 X) rfl (cwV 5 (lw_hts S) gL_law_X11_act rfl rfl rfl (by decide +kernel) ⟨by decide +kernel, by decide +kernel⟩) rfl rfl (Nat.le_of_ble_eq_true rfl) dL_law_622 ?_
    refine lw_eqT 625 S 1325 rfl dL_law_625 (by decide) ?_
    exact next M2 hI
set_option maxHeartbeats 4000000 in
set_option maxRecDepth 100000 in
theorem lw_case_14 {p : Program} {l : Launch} {e : Env} {s : State} {m : MethodId} {below : List Frame} {meth : Method} {c : Code} {b L : Nat} {xs : Nat → Int32} {X : GE} (S : LX p s m meth c b L xs X) {Inv : MM → Prop} (hs : St_picture Inv) (M : MM) (hI : Inv M) (i : Nat) (hi : i + 6 ≤ L) (next : ∀ M2 : MM, Inv M2 → LV p l e s m b below meth c X M2 1325 [(0, .ref b), (1, .ref (X.2.2 0)), (2, .ref (X.2.2 83)), (3, .int (nI i))] []) : LV p l e s m b below meth c X M 630 [(0, .ref b), (1, .ref (X.2.2 0)), (2, .ref (X.2.2 83)), (3, .int (nI i))] [] := by
    have h1 : vp_in (nI i + (1 : Int32)) L := lw_in S (k := 1) (by omega)
    have h2 : vp_in (nI i + (2 : Int32)) L := lw_in S (k := 2) (by omega)
    obtain ⟨r, M1, M2, e1, e2, hI⟩ := hs M hI (xs (nI i + (1 : Int32)).toNatClampNeg) (xs (nI i + (2 : Int32)).toNatClampNeg)
    refine lw_aload_n 630 S 1 1 dL_law_630 rfl rfl ?_
    refine lw_aload_n 631 S 0 0 dL_law_631 rfl rfl ?_
    refine lw_iload_n 632 S 3 3 dL_law_632 rfl rfl ?_
    refine lw_iconst 633 S (1 : Int32) dL_law_633 (by decide) ?_
    refine lw_iadd 634 S dL_law_634 ?_
    refine lw_sld 635 S (h1) dL_law_635 ?_
    refine lw_aload_n 636 S 0 0 dL_law_636 rfl rfl ?_
    refine lw_iload_n 637 S 3 3 dL_law_637 rfl rfl ?_
    refine lw_iconst 638 S (2 : Int32) dL_law_638 (by decide) ?_
    refine lw_iadd 639 S dL_law_639 ?_
    refine lw_sld 640 S (h2) dL_law_640 ?_
    refine lw_ci 641 S (As := [.int (xs (nI i + (1 : Int32)).toNatClampNeg), .int (xs (nI i + (2 : Int32)).toNatClampNeg)]) (rest := []) (c_X10_picture l X M (xs (nI i + (1 : Int32)).toNatClampNeg) (xs (nI i + (2 : Int32)).toNatClampNeg) r M1 e1) (hO_0 X) rfl (cwV 2 (lw_hts S) gL_law_X10_picture rfl rfl rfl (by decide +kernel) ⟨by decide +kernel, by decide +kernel⟩) rfl rfl (Nat.le_of_ble_eq_true rfl) dL_law_641 ?_
    refine lw_aload_n 644 S 2 2 dL_law_644 rfl rfl ?_
    refine lw_aload_n 645 S 0 0 dL_law_645 rfl rfl ?_
    refine lw_iload_n 646 S 3 3 dL_law_646 rfl rfl ?_
    refine lw_iconst 647 S (1 : Int32) dL_law_647 (by decide) ?_
    refine lw_iadd 648 S dL_law_648 ?_
    refine lw_sld 649 S (h1) dL_law_649 ?_
    refine lw_aload_n 650 S 0 0 dL_law_650 rfl rfl ?_
    refine lw_iload_n 651 S 3 3 dL_law_651 rfl rfl ?_
    refine lw_iconst 652 S (2 : Int32) dL_law_652 (by decide) ?_
    refine lw_iadd 653 S dL_law_653 ?_
    refine lw_sld 654 S (h2) dL_law_654 ?_
    refine lw_ci 655 S (As := [.int (xs (nI i + (1 : Int32)).toNatClampNeg), .int (xs (nI i + (2 : Int32)).toNatClampNeg)]) (rest := [.int r]) (c_X11_picture l X M1 (xs (nI i + (1 : Int32)).toNatClampNeg) (xs (nI i + (2 : Int32)).toNatClampNeg) r M2 e2) (hO_83 X) rfl (cwV 2 (lw_hts S) gL_law_X11_picture rfl rfl rfl (by decide +kernel) ⟨by decide +kernel, by decide +kernel⟩) rfl rfl (Nat.le_of_ble_eq_true rfl) dL_law_655 ?_
    refine lw_eqT 658 S 1325 rfl dL_law_658 (by decide) ?_
    exact next M2 hI
set_option maxHeartbeats 4000000 in
set_option maxRecDepth 100000 in
theorem lw_case_15 {p : Program} {l : Launch} {e : Env} {s : State} {m : MethodId} {below : List Frame} {meth : Method} {c : Code} {b L : Nat} {xs : Nat → Int32} {X : GE} (S : LX p s m meth c b L xs X) {Inv : MM → Prop} (hs : St_split Inv) (M : MM) (hI : Inv M) (i : Nat) (hi : i + 6 ≤ L) (next : ∀ M2 : MM, Inv M2 → LV p l e s m b below meth c X M2 1325 [(0, .ref b), (1, .ref (X.2.2 0)), (2, .ref (X.2.2 83)), (3, .int (nI i))] []) : LV p l e s m b below meth c X M 663 [(0, .ref b), (1, .ref (X.2.2 0)), (2, .ref (X.2.2 83)), (3, .int (nI i))] [] := by
    have h1 : vp_in (nI i + (1 : Int32)) L := lw_in S (k := 1) (by omega)
    have h2 : vp_in (nI i + (2 : Int32)) L := lw_in S (k := 2) (by omega)
    have h3 : vp_in (nI i + (3 : Int32)) L := lw_in S (k := 3) (by omega)
    have h4 : vp_in (nI i + (4 : Int32)) L := lw_in S (k := 4) (by omega)
    have h5 : vp_in (nI i + (5 : Int32)) L := lw_in S (k := 5) (by omega)
    obtain ⟨r, M1, M2, e1, e2, hI⟩ := hs M hI (xs (nI i + (1 : Int32)).toNatClampNeg) (xs (nI i + (2 : Int32)).toNatClampNeg) (xs (nI i + (3 : Int32)).toNatClampNeg) (xs (nI i + (4 : Int32)).toNatClampNeg) (xs (nI i + (5 : Int32)).toNatClampNeg)
    refine lw_aload_n 663 S 1 1 dL_law_663 rfl rfl ?_
    refine lw_aload_n 664 S 0 0 dL_law_664 rfl rfl ?_
    refine lw_iload_n 665 S 3 3 dL_law_665 rfl rfl ?_
    refine lw_iconst 666 S (1 : Int32) dL_law_666 (by decide) ?_
    refine lw_iadd 667 S dL_law_667 ?_
    refine lw_sld 668 S (h1) dL_law_668 ?_
    refine lw_aload_n 669 S 0 0 dL_law_669 rfl rfl ?_
    refine lw_iload_n 670 S 3 3 dL_law_670 rfl rfl ?_
    refine lw_iconst 671 S (2 : Int32) dL_law_671 (by decide) ?_
    refine lw_iadd 672 S dL_law_672 ?_
    refine lw_sld 673 S (h2) dL_law_673 ?_
    refine lw_aload_n 674 S 0 0 dL_law_674 rfl rfl ?_
    refine lw_iload_n 675 S 3 3 dL_law_675 rfl rfl ?_
    refine lw_iconst 676 S (3 : Int32) dL_law_676 (by decide) ?_
    refine lw_iadd 677 S dL_law_677 ?_
    refine lw_sld 678 S (h3) dL_law_678 ?_
    refine lw_aload_n 679 S 0 0 dL_law_679 rfl rfl ?_
    refine lw_iload_n 680 S 3 3 dL_law_680 rfl rfl ?_
    refine lw_iconst 681 S (4 : Int32) dL_law_681 (by decide) ?_
    refine lw_iadd 682 S dL_law_682 ?_
    refine lw_sld 683 S (h4) dL_law_683 ?_
    refine lw_aload_n 684 S 0 0 dL_law_684 rfl rfl ?_
    refine lw_iload_n 685 S 3 3 dL_law_685 rfl rfl ?_
    refine lw_iconst 686 S (5 : Int32) dL_law_686 (by decide) ?_
    refine lw_iadd 687 S dL_law_687 ?_
    refine lw_sld 688 S (h5) dL_law_688 ?_
    refine lw_ci 689 S (As := [.int (xs (nI i + (1 : Int32)).toNatClampNeg), .int (xs (nI i + (2 : Int32)).toNatClampNeg), .int (xs (nI i + (3 : Int32)).toNatClampNeg), .int (xs (nI i + (4 : Int32)).toNatClampNeg), .int (xs (nI i + (5 : Int32)).toNatClampNeg)]) (rest := []) (c_X10_split l X M (xs (nI i + (1 : Int32)).toNatClampNeg) (xs (nI i + (2 : Int32)).toNatClampNeg) (xs (nI i + (3 : Int32)).toNatClampNeg) (xs (nI i + (4 : Int32)).toNatClampNeg) (xs (nI i + (5 : Int32)).toNatClampNeg) r M1 e1) (hO_0 X) rfl (cwV 5 (lw_hts S) gL_law_X10_split rfl rfl rfl (by decide +kernel) ⟨by decide +kernel, by decide +kernel⟩) rfl rfl (Nat.le_of_ble_eq_true rfl) dL_law_689 ?_
    refine lw_aload_n 692 S 2 2 dL_law_692 rfl rfl ?_
    refine lw_aload_n 693 S 0 0 dL_law_693 rfl rfl ?_
    refine lw_iload_n 694 S 3 3 dL_law_694 rfl rfl ?_
    refine lw_iconst 695 S (1 : Int32) dL_law_695 (by decide) ?_
    refine lw_iadd 696 S dL_law_696 ?_
    refine lw_sld 697 S (h1) dL_law_697 ?_
    refine lw_aload_n 698 S 0 0 dL_law_698 rfl rfl ?_
    refine lw_iload_n 699 S 3 3 dL_law_699 rfl rfl ?_
    refine lw_iconst 700 S (2 : Int32) dL_law_700 (by decide) ?_
    refine lw_iadd 701 S dL_law_701 ?_
    refine lw_sld 702 S (h2) dL_law_702 ?_
    refine lw_aload_n 703 S 0 0 dL_law_703 rfl rfl ?_
    refine lw_iload_n 704 S 3 3 dL_law_704 rfl rfl ?_
    refine lw_iconst 705 S (3 : Int32) dL_law_705 (by decide) ?_
    refine lw_iadd 706 S dL_law_706 ?_
    refine lw_sld 707 S (h3) dL_law_707 ?_
    refine lw_aload_n 708 S 0 0 dL_law_708 rfl rfl ?_
    refine lw_iload_n 709 S 3 3 dL_law_709 rfl rfl ?_
    refine lw_iconst 710 S (4 : Int32) dL_law_710 (by decide) ?_
    refine lw_iadd 711 S dL_law_711 ?_
    refine lw_sld 712 S (h4) dL_law_712 ?_
    refine lw_aload_n 713 S 0 0 dL_law_713 rfl rfl ?_
    refine lw_iload_n 714 S 3 3 dL_law_714 rfl rfl ?_
    refine lw_iconst 715 S (5 : Int32) dL_law_715 (by decide) ?_
    refine lw_iadd 716 S dL_law_716 ?_
    refine lw_sld 717 S (h5) dL_law_717 ?_
    refine lw_ci 718 S (As := [.int (xs (nI i + (1 : Int32)).toNatClampNeg), .int (xs (nI i + (2 : Int32)).toNatClampNeg), .int (xs (nI i + (3 : Int32)).toNatClampNeg), .int (xs (nI i + (4 : Int32)).toNatClampNeg), .int (xs (nI i + (5 : Int32)).toNatClampNeg)]) (rest := [.int r]) (c_X11_split l X M1 (xs (nI i + (1 : Int32)).toNatClampNeg) (xs (nI i + (2 : Int32)).toNatClampNeg) (xs (nI i + (3 : Int32)).toNatClampNeg) (xs (nI i + (4 : Int32)).toNatClampNeg) (xs (nI i + (5 : Int32)).toNatClampNeg) r M2 e2) (hO_83 X) rfl (cwV 5 (lw_hts S) gL_law_X11_split rfl rfl rfl (by decide +kernel) ⟨by decide +kernel, by decide +kernel⟩) rfl rfl (Nat.le_of_ble_eq_true rfl) dL_law_718 ?_
    refine lw_eqT 721 S 1325 rfl dL_law_721 (by decide) ?_
    exact next M2 hI
set_option maxHeartbeats 4000000 in
set_option maxRecDepth 100000 in
theorem lw_case_16 {p : Program} {l : Launch} {e : Env} {s : State} {m : MethodId} {below : List Frame} {meth : Method} {c : Code} {b L : Nat} {xs : Nat → Int32} {X : GE} (S : LX p s m meth c b L xs X) {Inv : MM → Prop} (hs : St_crew Inv) (M : MM) (hI : Inv M) (i : Nat) (hi : i + 6 ≤ L) (next : ∀ M2 : MM, Inv M2 → LV p l e s m b below meth c X M2 1325 [(0, .ref b), (1, .ref (X.2.2 0)), (2, .ref (X.2.2 83)), (3, .int (nI i))] []) : LV p l e s m b below meth c X M 726 [(0, .ref b), (1, .ref (X.2.2 0)), (2, .ref (X.2.2 83)), (3, .int (nI i))] [] := by
    have h1 : vp_in (nI i + (1 : Int32)) L := lw_in S (k := 1) (by omega)
    have h2 : vp_in (nI i + (2 : Int32)) L := lw_in S (k := 2) (by omega)
    have h3 : vp_in (nI i + (3 : Int32)) L := lw_in S (k := 3) (by omega)
    have h4 : vp_in (nI i + (4 : Int32)) L := lw_in S (k := 4) (by omega)
    obtain ⟨r, M1, M2, e1, e2, hI⟩ := hs M hI (xs (nI i + (1 : Int32)).toNatClampNeg) (xs (nI i + (2 : Int32)).toNatClampNeg) (xs (nI i + (3 : Int32)).toNatClampNeg) (xs (nI i + (4 : Int32)).toNatClampNeg)
    refine lw_aload_n 726 S 1 1 dL_law_726 rfl rfl ?_
    refine lw_aload_n 727 S 0 0 dL_law_727 rfl rfl ?_
    refine lw_iload_n 728 S 3 3 dL_law_728 rfl rfl ?_
    refine lw_iconst 729 S (1 : Int32) dL_law_729 (by decide) ?_
    refine lw_iadd 730 S dL_law_730 ?_
    refine lw_sld 731 S (h1) dL_law_731 ?_
    refine lw_aload_n 732 S 0 0 dL_law_732 rfl rfl ?_
    refine lw_iload_n 733 S 3 3 dL_law_733 rfl rfl ?_
    refine lw_iconst 734 S (2 : Int32) dL_law_734 (by decide) ?_
    refine lw_iadd 735 S dL_law_735 ?_
    refine lw_sld 736 S (h2) dL_law_736 ?_
    refine lw_aload_n 737 S 0 0 dL_law_737 rfl rfl ?_
    refine lw_iload_n 738 S 3 3 dL_law_738 rfl rfl ?_
    refine lw_iconst 739 S (3 : Int32) dL_law_739 (by decide) ?_
    refine lw_iadd 740 S dL_law_740 ?_
    refine lw_sld 741 S (h3) dL_law_741 ?_
    refine lw_aload_n 742 S 0 0 dL_law_742 rfl rfl ?_
    refine lw_iload_n 743 S 3 3 dL_law_743 rfl rfl ?_
    refine lw_iconst 744 S (4 : Int32) dL_law_744 (by decide) ?_
    refine lw_iadd 745 S dL_law_745 ?_
    refine lw_sld 746 S (h4) dL_law_746 ?_
    refine lw_ci 747 S (As := [.int (xs (nI i + (1 : Int32)).toNatClampNeg), .int (xs (nI i + (2 : Int32)).toNatClampNeg), .int (xs (nI i + (3 : Int32)).toNatClampNeg), .int (xs (nI i + (4 : Int32)).toNatClampNeg)]) (rest := []) (c_X10_crew l X M (xs (nI i + (1 : Int32)).toNatClampNeg) (xs (nI i + (2 : Int32)).toNatClampNeg) (xs (nI i + (3 : Int32)).toNatClampNeg) (xs (nI i + (4 : Int32)).toNatClampNeg) r M1 e1) (hO_0 X) rfl (cwV 4 (lw_hts S) gL_law_X10_crew rfl rfl rfl (by decide +kernel) ⟨by decide +kernel, by decide +kernel⟩) rfl rfl (Nat.le_of_ble_eq_true rfl) dL_law_747 ?_
    refine lw_aload_n 750 S 2 2 dL_law_750 rfl rfl ?_
    refine lw_aload_n 751 S 0 0 dL_law_751 rfl rfl ?_
    refine lw_iload_n 752 S 3 3 dL_law_752 rfl rfl ?_
    refine lw_iconst 753 S (1 : Int32) dL_law_753 (by decide) ?_
    refine lw_iadd 754 S dL_law_754 ?_
    refine lw_sld 755 S (h1) dL_law_755 ?_
    refine lw_aload_n 756 S 0 0 dL_law_756 rfl rfl ?_
    refine lw_iload_n 757 S 3 3 dL_law_757 rfl rfl ?_
    refine lw_iconst 758 S (2 : Int32) dL_law_758 (by decide) ?_
    refine lw_iadd 759 S dL_law_759 ?_
    refine lw_sld 760 S (h2) dL_law_760 ?_
    refine lw_aload_n 761 S 0 0 dL_law_761 rfl rfl ?_
    refine lw_iload_n 762 S 3 3 dL_law_762 rfl rfl ?_
    refine lw_iconst 763 S (3 : Int32) dL_law_763 (by decide) ?_
    refine lw_iadd 764 S dL_law_764 ?_
    refine lw_sld 765 S (h3) dL_law_765 ?_
    refine lw_aload_n 766 S 0 0 dL_law_766 rfl rfl ?_
    refine lw_iload_n 767 S 3 3 dL_law_767 rfl rfl ?_
    refine lw_iconst 768 S (4 : Int32) dL_law_768 (by decide) ?_
    refine lw_iadd 769 S dL_law_769 ?_
    refine lw_sld 770 S (h4) dL_law_770 ?_
    refine lw_ci 771 S (As := [.int (xs (nI i + (1 : Int32)).toNatClampNeg), .int (xs (nI i + (2 : Int32)).toNatClampNeg), .int (xs (nI i + (3 : Int32)).toNatClampNeg), .int (xs (nI i + (4 : Int32)).toNatClampNeg)]) (rest := [.int r]) (c_X11_crew l X M1 (xs (nI i + (1 : Int32)).toNatClampNeg) (xs (nI i + (2 : Int32)).toNatClampNeg) (xs (nI i + (3 : Int32)).toNatClampNeg) (xs (nI i + (4 : Int32)).toNatClampNeg) r M2 e2) (hO_83 X) rfl (cwV 4 (lw_hts S) gL_law_X11_crew rfl rfl rfl (by decide +kernel) ⟨by decide +kernel, by decide +kernel⟩) rfl rfl (Nat.le_of_ble_eq_true rfl) dL_law_771 ?_
    refine lw_eqT 774 S 1325 rfl dL_law_774 (by decide) ?_
    exact next M2 hI
set_option maxHeartbeats 4000000 in
set_option maxRecDepth 100000 in
theorem lw_case_17 {p : Program} {l : Launch} {e : Env} {s : State} {m : MethodId} {below : List Frame} {meth : Method} {c : Code} {b L : Nat} {xs : Nat → Int32} {X : GE} (S : LX p s m meth c b L xs X) {Inv : MM → Prop} (hs : St_balance Inv) (M : MM) (hI : Inv M) (i : Nat) (hi : i + 6 ≤ L) (next : ∀ M2 : MM, Inv M2 → LV p l e s m b below meth c X M2 1325 [(0, .ref b), (1, .ref (X.2.2 0)), (2, .ref (X.2.2 83)), (3, .int (nI i))] []) : LV p l e s m b below meth c X M 779 [(0, .ref b), (1, .ref (X.2.2 0)), (2, .ref (X.2.2 83)), (3, .int (nI i))] [] := by
    have h1 : vp_in (nI i + (1 : Int32)) L := lw_in S (k := 1) (by omega)
    have h2 : vp_in (nI i + (2 : Int32)) L := lw_in S (k := 2) (by omega)
    obtain ⟨r, M2, e1, e2, hI⟩ := hs M hI (xs (nI i + (1 : Int32)).toNatClampNeg) (xs (nI i + (2 : Int32)).toNatClampNeg)
    refine lw_aload_n 779 S 1 1 dL_law_779 rfl rfl ?_
    refine lw_aload_n 780 S 0 0 dL_law_780 rfl rfl ?_
    refine lw_iload_n 781 S 3 3 dL_law_781 rfl rfl ?_
    refine lw_iconst 782 S (1 : Int32) dL_law_782 (by decide) ?_
    refine lw_iadd 783 S dL_law_783 ?_
    refine lw_sld 784 S (h1) dL_law_784 ?_
    refine lw_aload_n 785 S 0 0 dL_law_785 rfl rfl ?_
    refine lw_iload_n 786 S 3 3 dL_law_786 rfl rfl ?_
    refine lw_iconst 787 S (2 : Int32) dL_law_787 (by decide) ?_
    refine lw_iadd 788 S dL_law_788 ?_
    refine lw_sld 789 S (h2) dL_law_789 ?_
    refine lw_ci 790 S (As := [.int (xs (nI i + (1 : Int32)).toNatClampNeg), .int (xs (nI i + (2 : Int32)).toNatClampNeg)]) (rest := []) (c_X10_balance l X M (xs (nI i + (1 : Int32)).toNatClampNeg) (xs (nI i + (2 : Int32)).toNatClampNeg) r e1) (hO_0 X) rfl (cwV 2 (lw_hts S) gL_law_X10_balance rfl rfl rfl (by decide +kernel) ⟨by decide +kernel, by decide +kernel⟩) rfl rfl (Nat.le_of_ble_eq_true rfl) dL_law_790 ?_
    refine lw_aload_n 793 S 2 2 dL_law_793 rfl rfl ?_
    refine lw_aload_n 794 S 0 0 dL_law_794 rfl rfl ?_
    refine lw_iload_n 795 S 3 3 dL_law_795 rfl rfl ?_
    refine lw_iconst 796 S (1 : Int32) dL_law_796 (by decide) ?_
    refine lw_iadd 797 S dL_law_797 ?_
    refine lw_sld 798 S (h1) dL_law_798 ?_
    refine lw_aload_n 799 S 0 0 dL_law_799 rfl rfl ?_
    refine lw_iload_n 800 S 3 3 dL_law_800 rfl rfl ?_
    refine lw_iconst 801 S (2 : Int32) dL_law_801 (by decide) ?_
    refine lw_iadd 802 S dL_law_802 ?_
    refine lw_sld 803 S (h2) dL_law_803 ?_
    refine lw_ci 804 S (As := [.int (xs (nI i + (1 : Int32)).toNatClampNeg), .int (xs (nI i + (2 : Int32)).toNatClampNeg)]) (rest := [.int r]) (c_X11_balance l X M (xs (nI i + (1 : Int32)).toNatClampNeg) (xs (nI i + (2 : Int32)).toNatClampNeg) r M2 e2) (hO_83 X) rfl (cwV 2 (lw_hts S) gL_law_X11_balance rfl rfl rfl (by decide +kernel) ⟨by decide +kernel, by decide +kernel⟩) rfl rfl (Nat.le_of_ble_eq_true rfl) dL_law_804 ?_
    refine lw_eqT 807 S 1325 rfl dL_law_807 (by decide) ?_
    exact next M2 hI
set_option maxHeartbeats 4000000 in
set_option maxRecDepth 100000 in
theorem lw_case_18 {p : Program} {l : Launch} {e : Env} {s : State} {m : MethodId} {below : List Frame} {meth : Method} {c : Code} {b L : Nat} {xs : Nat → Int32} {X : GE} (S : LX p s m meth c b L xs X) {Inv : MM → Prop} (hs : St_reading Inv) (M : MM) (hI : Inv M) (i : Nat) (hi : i + 6 ≤ L) (next : ∀ M2 : MM, Inv M2 → LV p l e s m b below meth c X M2 1325 [(0, .ref b), (1, .ref (X.2.2 0)), (2, .ref (X.2.2 83)), (3, .int (nI i))] []) : LV p l e s m b below meth c X M 812 [(0, .ref b), (1, .ref (X.2.2 0)), (2, .ref (X.2.2 83)), (3, .int (nI i))] [] := by
    have h1 : vp_in (nI i + (1 : Int32)) L := lw_in S (k := 1) (by omega)
    have h2 : vp_in (nI i + (2 : Int32)) L := lw_in S (k := 2) (by omega)
    have h3 : vp_in (nI i + (3 : Int32)) L := lw_in S (k := 3) (by omega)
    obtain ⟨r, M1, M2, e1, e2, hI⟩ := hs M hI (xs (nI i + (1 : Int32)).toNatClampNeg) (xs (nI i + (2 : Int32)).toNatClampNeg) (xs (nI i + (3 : Int32)).toNatClampNeg)
    refine lw_aload_n 812 S 1 1 dL_law_812 rfl rfl ?_
    refine lw_aload_n 813 S 0 0 dL_law_813 rfl rfl ?_
    refine lw_iload_n 814 S 3 3 dL_law_814 rfl rfl ?_
    refine lw_iconst 815 S (1 : Int32) dL_law_815 (by decide) ?_
    refine lw_iadd 816 S dL_law_816 ?_
    refine lw_sld 817 S (h1) dL_law_817 ?_
    refine lw_aload_n 818 S 0 0 dL_law_818 rfl rfl ?_
    refine lw_iload_n 819 S 3 3 dL_law_819 rfl rfl ?_
    refine lw_iconst 820 S (2 : Int32) dL_law_820 (by decide) ?_
    refine lw_iadd 821 S dL_law_821 ?_
    refine lw_sld 822 S (h2) dL_law_822 ?_
    refine lw_aload_n 823 S 0 0 dL_law_823 rfl rfl ?_
    refine lw_iload_n 824 S 3 3 dL_law_824 rfl rfl ?_
    refine lw_iconst 825 S (3 : Int32) dL_law_825 (by decide) ?_
    refine lw_iadd 826 S dL_law_826 ?_
    refine lw_sld 827 S (h3) dL_law_827 ?_
    refine lw_ci 828 S (As := [.int (xs (nI i + (1 : Int32)).toNatClampNeg), .int (xs (nI i + (2 : Int32)).toNatClampNeg), .int (xs (nI i + (3 : Int32)).toNatClampNeg)]) (rest := []) (c_X10_reading l X M (xs (nI i + (1 : Int32)).toNatClampNeg) (xs (nI i + (2 : Int32)).toNatClampNeg) (xs (nI i + (3 : Int32)).toNatClampNeg) r M1 e1) (hO_0 X) rfl (cwV 3 (lw_hts S) gL_law_X10_reading rfl rfl rfl (by decide +kernel) ⟨by decide +kernel, by decide +kernel⟩) rfl rfl (Nat.le_of_ble_eq_true rfl) dL_law_828 ?_
    refine lw_aload_n 831 S 2 2 dL_law_831 rfl rfl ?_
    refine lw_aload_n 832 S 0 0 dL_law_832 rfl rfl ?_
    refine lw_iload_n 833 S 3 3 dL_law_833 rfl rfl ?_
    refine lw_iconst 834 S (1 : Int32) dL_law_834 (by decide) ?_
    refine lw_iadd 835 S dL_law_835 ?_
    refine lw_sld 836 S (h1) dL_law_836 ?_
    refine lw_aload_n 837 S 0 0 dL_law_837 rfl rfl ?_
    refine lw_iload_n 838 S 3 3 dL_law_838 rfl rfl ?_
    refine lw_iconst 839 S (2 : Int32) dL_law_839 (by decide) ?_
    refine lw_iadd 840 S dL_law_840 ?_
    refine lw_sld 841 S (h2) dL_law_841 ?_
    refine lw_aload_n 842 S 0 0 dL_law_842 rfl rfl ?_
    refine lw_iload_n 843 S 3 3 dL_law_843 rfl rfl ?_
    refine lw_iconst 844 S (3 : Int32) dL_law_844 (by decide) ?_
    refine lw_iadd 845 S dL_law_845 ?_
    refine lw_sld 846 S (h3) dL_law_846 ?_
    refine lw_ci 847 S (As := [.int (xs (nI i + (1 : Int32)).toNatClampNeg), .int (xs (nI i + (2 : Int32)).toNatClampNeg), .int (xs (nI i + (3 : Int32)).toNatClampNeg)]) (rest := [.int r]) (c_X11_reading l X M1 (xs (nI i + (1 : Int32)).toNatClampNeg) (xs (nI i + (2 : Int32)).toNatClampNeg) (xs (nI i + (3 : Int32)).toNatClampNeg) r M2 e2) (hO_83 X) rfl (cwV 3 (lw_hts S) gL_law_X11_reading rfl rfl rfl (by decide +kernel) ⟨by decide +kernel, by decide +kernel⟩) rfl rfl (Nat.le_of_ble_eq_true rfl) dL_law_847 ?_
    refine lw_eqT 850 S 1325 rfl dL_law_850 (by decide) ?_
    exact next M2 hI
set_option maxHeartbeats 4000000 in
set_option maxRecDepth 100000 in
theorem lw_case_19 {p : Program} {l : Launch} {e : Env} {s : State} {m : MethodId} {below : List Frame} {meth : Method} {c : Code} {b L : Nat} {xs : Nat → Int32} {X : GE} (S : LX p s m meth c b L xs X) {Inv : MM → Prop} (hs : St_back Inv) (M : MM) (hI : Inv M) (i : Nat) (hi : i + 6 ≤ L) (next : ∀ M2 : MM, Inv M2 → LV p l e s m b below meth c X M2 1325 [(0, .ref b), (1, .ref (X.2.2 0)), (2, .ref (X.2.2 83)), (3, .int (nI i))] []) : LV p l e s m b below meth c X M 855 [(0, .ref b), (1, .ref (X.2.2 0)), (2, .ref (X.2.2 83)), (3, .int (nI i))] [] := by
    have h1 : vp_in (nI i + (1 : Int32)) L := lw_in S (k := 1) (by omega)
    obtain ⟨r, M1, M2, e1, e2, hI⟩ := hs M hI (xs (nI i + (1 : Int32)).toNatClampNeg)
    refine lw_aload_n 855 S 1 1 dL_law_855 rfl rfl ?_
    refine lw_aload_n 856 S 0 0 dL_law_856 rfl rfl ?_
    refine lw_iload_n 857 S 3 3 dL_law_857 rfl rfl ?_
    refine lw_iconst 858 S (1 : Int32) dL_law_858 (by decide) ?_
    refine lw_iadd 859 S dL_law_859 ?_
    refine lw_sld 860 S (h1) dL_law_860 ?_
    refine lw_ci 861 S (As := [.int (xs (nI i + (1 : Int32)).toNatClampNeg)]) (rest := []) (c_X10_back l X M (xs (nI i + (1 : Int32)).toNatClampNeg) r M1 e1) (hO_0 X) rfl (cwV 1 (lw_hts S) gL_law_X10_back rfl rfl rfl (by decide +kernel) ⟨by decide +kernel, by decide +kernel⟩) rfl rfl (Nat.le_of_ble_eq_true rfl) dL_law_861 ?_
    refine lw_aload_n 864 S 2 2 dL_law_864 rfl rfl ?_
    refine lw_aload_n 865 S 0 0 dL_law_865 rfl rfl ?_
    refine lw_iload_n 866 S 3 3 dL_law_866 rfl rfl ?_
    refine lw_iconst 867 S (1 : Int32) dL_law_867 (by decide) ?_
    refine lw_iadd 868 S dL_law_868 ?_
    refine lw_sld 869 S (h1) dL_law_869 ?_
    refine lw_ci 870 S (As := [.int (xs (nI i + (1 : Int32)).toNatClampNeg)]) (rest := [.int r]) (c_X11_back l X M1 (xs (nI i + (1 : Int32)).toNatClampNeg) r M2 e2) (hO_83 X) rfl (cwV 1 (lw_hts S) gL_law_X11_back rfl rfl rfl (by decide +kernel) ⟨by decide +kernel, by decide +kernel⟩) rfl rfl (Nat.le_of_ble_eq_true rfl) dL_law_870 ?_
    refine lw_eqT 873 S 1325 rfl dL_law_873 (by decide) ?_
    exact next M2 hI
set_option maxHeartbeats 4000000 in
set_option maxRecDepth 100000 in
theorem lw_case_20 {p : Program} {l : Launch} {e : Env} {s : State} {m : MethodId} {below : List Frame} {meth : Method} {c : Code} {b L : Nat} {xs : Nat → Int32} {X : GE} (S : LX p s m meth c b L xs X) {Inv : MM → Prop} (hs : St_loads Inv) (M : MM) (hI : Inv M) (i : Nat) (hi : i + 6 ≤ L) (next : ∀ M2 : MM, Inv M2 → LV p l e s m b below meth c X M2 1325 [(0, .ref b), (1, .ref (X.2.2 0)), (2, .ref (X.2.2 83)), (3, .int (nI i))] []) : LV p l e s m b below meth c X M 878 [(0, .ref b), (1, .ref (X.2.2 0)), (2, .ref (X.2.2 83)), (3, .int (nI i))] [] := by
    have h1 : vp_in (nI i + (1 : Int32)) L := lw_in S (k := 1) (by omega)
    obtain ⟨r, M2, e1, e2, hI⟩ := hs M hI (xs (nI i + (1 : Int32)).toNatClampNeg)
    refine lw_aload_n 878 S 1 1 dL_law_878 rfl rfl ?_
    refine lw_aload_n 879 S 0 0 dL_law_879 rfl rfl ?_
    refine lw_iload_n 880 S 3 3 dL_law_880 rfl rfl ?_
    refine lw_iconst 881 S (1 : Int32) dL_law_881 (by decide) ?_
    refine lw_iadd 882 S dL_law_882 ?_
    refine lw_sld 883 S (h1) dL_law_883 ?_
    refine lw_ci 884 S (As := [.int (xs (nI i + (1 : Int32)).toNatClampNeg)]) (rest := []) (c_X10_loads l X M (xs (nI i + (1 : Int32)).toNatClampNeg) r e1) (hO_0 X) rfl (cwV 1 (lw_hts S) gL_law_X10_loads rfl rfl rfl (by decide +kernel) ⟨by decide +kernel, by decide +kernel⟩) rfl rfl (Nat.le_of_ble_eq_true rfl) dL_law_884 ?_
    refine lw_aload_n 887 S 2 2 dL_law_887 rfl rfl ?_
    refine lw_aload_n 888 S 0 0 dL_law_888 rfl rfl ?_
    refine lw_iload_n 889 S 3 3 dL_law_889 rfl rfl ?_
    refine lw_iconst 890 S (1 : Int32) dL_law_890 (by decide) ?_
    refine lw_iadd 891 S dL_law_891 ?_
    refine lw_sld 892 S (h1) dL_law_892 ?_
    refine lw_ci 893 S (As := [.int (xs (nI i + (1 : Int32)).toNatClampNeg)]) (rest := [.int r]) (c_X11_loads l X M (xs (nI i + (1 : Int32)).toNatClampNeg) r M2 e2) (hO_83 X) rfl (cwV 1 (lw_hts S) gL_law_X11_loads rfl rfl rfl (by decide +kernel) ⟨by decide +kernel, by decide +kernel⟩) rfl rfl (Nat.le_of_ble_eq_true rfl) dL_law_893 ?_
    refine lw_eqT 896 S 1325 rfl dL_law_896 (by decide) ?_
    exact next M2 hI
set_option maxHeartbeats 4000000 in
set_option maxRecDepth 100000 in
theorem lw_case_21 {p : Program} {l : Launch} {e : Env} {s : State} {m : MethodId} {below : List Frame} {meth : Method} {c : Code} {b L : Nat} {xs : Nat → Int32} {X : GE} (S : LX p s m meth c b L xs X) {Inv : MM → Prop} (hs : St_weights Inv) (M : MM) (hI : Inv M) (i : Nat) (hi : i + 6 ≤ L) (next : ∀ M2 : MM, Inv M2 → LV p l e s m b below meth c X M2 1325 [(0, .ref b), (1, .ref (X.2.2 0)), (2, .ref (X.2.2 83)), (3, .int (nI i))] []) : LV p l e s m b below meth c X M 901 [(0, .ref b), (1, .ref (X.2.2 0)), (2, .ref (X.2.2 83)), (3, .int (nI i))] [] := by
    have h1 : vp_in (nI i + (1 : Int32)) L := lw_in S (k := 1) (by omega)
    obtain ⟨r, M2, e1, e2, hI⟩ := hs M hI (xs (nI i + (1 : Int32)).toNatClampNeg)
    refine lw_aload_n 901 S 1 1 dL_law_901 rfl rfl ?_
    refine lw_aload_n 902 S 0 0 dL_law_902 rfl rfl ?_
    refine lw_iload_n 903 S 3 3 dL_law_903 rfl rfl ?_
    refine lw_iconst 904 S (1 : Int32) dL_law_904 (by decide) ?_
    refine lw_iadd 905 S dL_law_905 ?_
    refine lw_sld 906 S (h1) dL_law_906 ?_
    refine lw_ci 907 S (As := [.int (xs (nI i + (1 : Int32)).toNatClampNeg)]) (rest := []) (c_X10_weights l X M (xs (nI i + (1 : Int32)).toNatClampNeg) r e1) (hO_0 X) rfl (cwV 1 (lw_hts S) gL_law_X10_weights rfl rfl rfl (by decide +kernel) ⟨by decide +kernel, by decide +kernel⟩) rfl rfl (Nat.le_of_ble_eq_true rfl) dL_law_907 ?_
    refine lw_aload_n 910 S 2 2 dL_law_910 rfl rfl ?_
    refine lw_aload_n 911 S 0 0 dL_law_911 rfl rfl ?_
    refine lw_iload_n 912 S 3 3 dL_law_912 rfl rfl ?_
    refine lw_iconst 913 S (1 : Int32) dL_law_913 (by decide) ?_
    refine lw_iadd 914 S dL_law_914 ?_
    refine lw_sld 915 S (h1) dL_law_915 ?_
    refine lw_ci 916 S (As := [.int (xs (nI i + (1 : Int32)).toNatClampNeg)]) (rest := [.int r]) (c_X11_weights l X M (xs (nI i + (1 : Int32)).toNatClampNeg) r M2 e2) (hO_83 X) rfl (cwV 1 (lw_hts S) gL_law_X11_weights rfl rfl rfl (by decide +kernel) ⟨by decide +kernel, by decide +kernel⟩) rfl rfl (Nat.le_of_ble_eq_true rfl) dL_law_916 ?_
    refine lw_eqT 919 S 1325 rfl dL_law_919 (by decide) ?_
    exact next M2 hI
set_option maxHeartbeats 4000000 in
set_option maxRecDepth 100000 in
theorem lw_case_22 {p : Program} {l : Launch} {e : Env} {s : State} {m : MethodId} {below : List Frame} {meth : Method} {c : Code} {b L : Nat} {xs : Nat → Int32} {X : GE} (S : LX p s m meth c b L xs X) {Inv : MM → Prop} (hs : St_kinds Inv) (M : MM) (hI : Inv M) (i : Nat) (hi : i + 6 ≤ L) (next : ∀ M2 : MM, Inv M2 → LV p l e s m b below meth c X M2 1325 [(0, .ref b), (1, .ref (X.2.2 0)), (2, .ref (X.2.2 83)), (3, .int (nI i))] []) : LV p l e s m b below meth c X M 924 [(0, .ref b), (1, .ref (X.2.2 0)), (2, .ref (X.2.2 83)), (3, .int (nI i))] [] := by
    have h1 : vp_in (nI i + (1 : Int32)) L := lw_in S (k := 1) (by omega)
    obtain ⟨r, M2, e1, e2, hI⟩ := hs M hI (xs (nI i + (1 : Int32)).toNatClampNeg)
    refine lw_aload_n 924 S 1 1 dL_law_924 rfl rfl ?_
    refine lw_aload_n 925 S 0 0 dL_law_925 rfl rfl ?_
    refine lw_iload_n 926 S 3 3 dL_law_926 rfl rfl ?_
    refine lw_iconst 927 S (1 : Int32) dL_law_927 (by decide) ?_
    refine lw_iadd 928 S dL_law_928 ?_
    refine lw_sld 929 S (h1) dL_law_929 ?_
    refine lw_ci 930 S (As := [.int (xs (nI i + (1 : Int32)).toNatClampNeg)]) (rest := []) (c_X10_kinds l X M (xs (nI i + (1 : Int32)).toNatClampNeg) r e1) (hO_0 X) rfl (cwV 1 (lw_hts S) gL_law_X10_kinds rfl rfl rfl (by decide +kernel) ⟨by decide +kernel, by decide +kernel⟩) rfl rfl (Nat.le_of_ble_eq_true rfl) dL_law_930 ?_
    refine lw_aload_n 933 S 2 2 dL_law_933 rfl rfl ?_
    refine lw_aload_n 934 S 0 0 dL_law_934 rfl rfl ?_
    refine lw_iload_n 935 S 3 3 dL_law_935 rfl rfl ?_
    refine lw_iconst 936 S (1 : Int32) dL_law_936 (by decide) ?_
    refine lw_iadd 937 S dL_law_937 ?_
    refine lw_sld 938 S (h1) dL_law_938 ?_
    refine lw_ci 939 S (As := [.int (xs (nI i + (1 : Int32)).toNatClampNeg)]) (rest := [.int r]) (c_X11_kinds l X M (xs (nI i + (1 : Int32)).toNatClampNeg) r M2 e2) (hO_83 X) rfl (cwV 1 (lw_hts S) gL_law_X11_kinds rfl rfl rfl (by decide +kernel) ⟨by decide +kernel, by decide +kernel⟩) rfl rfl (Nat.le_of_ble_eq_true rfl) dL_law_939 ?_
    refine lw_eqT 942 S 1325 rfl dL_law_942 (by decide) ?_
    exact next M2 hI
set_option maxHeartbeats 4000000 in
set_option maxRecDepth 100000 in
theorem lw_case_23 {p : Program} {l : Launch} {e : Env} {s : State} {m : MethodId} {below : List Frame} {meth : Method} {c : Code} {b L : Nat} {xs : Nat → Int32} {X : GE} (S : LX p s m meth c b L xs X) {Inv : MM → Prop} (hs : St_odds Inv) (M : MM) (hI : Inv M) (i : Nat) (hi : i + 6 ≤ L) (next : ∀ M2 : MM, Inv M2 → LV p l e s m b below meth c X M2 1325 [(0, .ref b), (1, .ref (X.2.2 0)), (2, .ref (X.2.2 83)), (3, .int (nI i))] []) : LV p l e s m b below meth c X M 947 [(0, .ref b), (1, .ref (X.2.2 0)), (2, .ref (X.2.2 83)), (3, .int (nI i))] [] := by
    have h1 : vp_in (nI i + (1 : Int32)) L := lw_in S (k := 1) (by omega)
    have h2 : vp_in (nI i + (2 : Int32)) L := lw_in S (k := 2) (by omega)
    obtain ⟨r, M2, e1, e2, hI⟩ := hs M hI (xs (nI i + (1 : Int32)).toNatClampNeg) (xs (nI i + (2 : Int32)).toNatClampNeg)
    refine lw_aload_n 947 S 1 1 dL_law_947 rfl rfl ?_
    refine lw_aload_n 948 S 0 0 dL_law_948 rfl rfl ?_
    refine lw_iload_n 949 S 3 3 dL_law_949 rfl rfl ?_
    refine lw_iconst 950 S (1 : Int32) dL_law_950 (by decide) ?_
    refine lw_iadd 951 S dL_law_951 ?_
    refine lw_sld 952 S (h1) dL_law_952 ?_
    refine lw_aload_n 953 S 0 0 dL_law_953 rfl rfl ?_
    refine lw_iload_n 954 S 3 3 dL_law_954 rfl rfl ?_
    refine lw_iconst 955 S (2 : Int32) dL_law_955 (by decide) ?_
    refine lw_iadd 956 S dL_law_956 ?_
    refine lw_sld 957 S (h2) dL_law_957 ?_
    refine lw_cl 958 S (As := [.int (xs (nI i + (1 : Int32)).toNatClampNeg), .int (xs (nI i + (2 : Int32)).toNatClampNeg)]) (rest := []) (c_X10_odds l X M (xs (nI i + (1 : Int32)).toNatClampNeg) (xs (nI i + (2 : Int32)).toNatClampNeg) r e1) (hO_0 X) rfl (cwV 2 (lw_hts S) gL_law_X10_odds rfl rfl rfl (by decide +kernel) ⟨by decide +kernel, by decide +kernel⟩) rfl rfl (Nat.le_of_ble_eq_true rfl) dL_law_958 ?_
    refine lw_aload_n 961 S 2 2 dL_law_961 rfl rfl ?_
    refine lw_aload_n 962 S 0 0 dL_law_962 rfl rfl ?_
    refine lw_iload_n 963 S 3 3 dL_law_963 rfl rfl ?_
    refine lw_iconst 964 S (1 : Int32) dL_law_964 (by decide) ?_
    refine lw_iadd 965 S dL_law_965 ?_
    refine lw_sld 966 S (h1) dL_law_966 ?_
    refine lw_aload_n 967 S 0 0 dL_law_967 rfl rfl ?_
    refine lw_iload_n 968 S 3 3 dL_law_968 rfl rfl ?_
    refine lw_iconst 969 S (2 : Int32) dL_law_969 (by decide) ?_
    refine lw_iadd 970 S dL_law_970 ?_
    refine lw_sld 971 S (h2) dL_law_971 ?_
    refine lw_cl 972 S (As := [.int (xs (nI i + (1 : Int32)).toNatClampNeg), .int (xs (nI i + (2 : Int32)).toNatClampNeg)]) (rest := [.long r]) (c_X11_odds l X M (xs (nI i + (1 : Int32)).toNatClampNeg) (xs (nI i + (2 : Int32)).toNatClampNeg) r M2 e2) (hO_83 X) rfl (cwV 2 (lw_hts S) gL_law_X11_odds rfl rfl rfl (by decide +kernel) ⟨by decide +kernel, by decide +kernel⟩) rfl rfl (Nat.le_of_ble_eq_true rfl) dL_law_972 ?_
    refine lw_lcmp 975 S dL_law_975 ?_
    refine lw_ifeqT 976 S 1325 (lg_cmp_self _) dL_law_976 (by decide) ?_
    exact next M2 hI
set_option maxHeartbeats 4000000 in
set_option maxRecDepth 100000 in
theorem lw_case_24 {p : Program} {l : Launch} {e : Env} {s : State} {m : MethodId} {below : List Frame} {meth : Method} {c : Code} {b L : Nat} {xs : Nat → Int32} {X : GE} (S : LX p s m meth c b L xs X) {Inv : MM → Prop} (hs : St_sheet Inv) (M : MM) (hI : Inv M) (i : Nat) (hi : i + 6 ≤ L) (next : ∀ M2 : MM, Inv M2 → LV p l e s m b below meth c X M2 1325 [(0, .ref b), (1, .ref (X.2.2 0)), (2, .ref (X.2.2 83)), (3, .int (nI i))] []) : LV p l e s m b below meth c X M 981 [(0, .ref b), (1, .ref (X.2.2 0)), (2, .ref (X.2.2 83)), (3, .int (nI i))] [] := by
    have h1 : vp_in (nI i + (1 : Int32)) L := lw_in S (k := 1) (by omega)
    have h2 : vp_in (nI i + (2 : Int32)) L := lw_in S (k := 2) (by omega)
    have h3 : vp_in (nI i + (3 : Int32)) L := lw_in S (k := 3) (by omega)
    obtain ⟨r, M1, M2, e1, e2, hI⟩ := hs M hI (xs (nI i + (1 : Int32)).toNatClampNeg) (xs (nI i + (2 : Int32)).toNatClampNeg) (xs (nI i + (3 : Int32)).toNatClampNeg)
    refine lw_aload_n 981 S 1 1 dL_law_981 rfl rfl ?_
    refine lw_aload_n 982 S 0 0 dL_law_982 rfl rfl ?_
    refine lw_iload_n 983 S 3 3 dL_law_983 rfl rfl ?_
    refine lw_iconst 984 S (1 : Int32) dL_law_984 (by decide) ?_
    refine lw_iadd 985 S dL_law_985 ?_
    refine lw_sld 986 S (h1) dL_law_986 ?_
    refine lw_aload_n 987 S 0 0 dL_law_987 rfl rfl ?_
    refine lw_iload_n 988 S 3 3 dL_law_988 rfl rfl ?_
    refine lw_iconst 989 S (2 : Int32) dL_law_989 (by decide) ?_
    refine lw_iadd 990 S dL_law_990 ?_
    refine lw_sld 991 S (h2) dL_law_991 ?_
    refine lw_aload_n 992 S 0 0 dL_law_992 rfl rfl ?_
    refine lw_iload_n 993 S 3 3 dL_law_993 rfl rfl ?_
    refine lw_iconst 994 S (3 : Int32) dL_law_994 (by decide) ?_
    refine lw_iadd 995 S dL_law_995 ?_
    refine lw_sld 996 S (h3) dL_law_996 ?_
    refine lw_ci 997 S (As := [.int (xs (nI i + (1 : Int32)).toNatClampNeg), .int (xs (nI i + (2 : Int32)).toNatClampNeg), .int (xs (nI i + (3 : Int32)).toNatClampNeg)]) (rest := []) (c_X10_sheet l X M (xs (nI i + (1 : Int32)).toNatClampNeg) (xs (nI i + (2 : Int32)).toNatClampNeg) (xs (nI i + (3 : Int32)).toNatClampNeg) r M1 e1) (hO_0 X) rfl (cwV 3 (lw_hts S) gL_law_X10_sheet rfl rfl rfl (by decide +kernel) ⟨by decide +kernel, by decide +kernel⟩) rfl rfl (Nat.le_of_ble_eq_true rfl) dL_law_997 ?_
    refine lw_aload_n 1000 S 2 2 dL_law_1000 rfl rfl ?_
    refine lw_aload_n 1001 S 0 0 dL_law_1001 rfl rfl ?_
    refine lw_iload_n 1002 S 3 3 dL_law_1002 rfl rfl ?_
    refine lw_iconst 1003 S (1 : Int32) dL_law_1003 (by decide) ?_
    refine lw_iadd 1004 S dL_law_1004 ?_
    refine lw_sld 1005 S (h1) dL_law_1005 ?_
    refine lw_aload_n 1006 S 0 0 dL_law_1006 rfl rfl ?_
    refine lw_iload_n 1007 S 3 3 dL_law_1007 rfl rfl ?_
    refine lw_iconst 1008 S (2 : Int32) dL_law_1008 (by decide) ?_
    refine lw_iadd 1009 S dL_law_1009 ?_
    refine lw_sld 1010 S (h2) dL_law_1010 ?_
    refine lw_aload_n 1011 S 0 0 dL_law_1011 rfl rfl ?_
    refine lw_iload_n 1012 S 3 3 dL_law_1012 rfl rfl ?_
    refine lw_iconst 1013 S (3 : Int32) dL_law_1013 (by decide) ?_
    refine lw_iadd 1014 S dL_law_1014 ?_
    refine lw_sld 1015 S (h3) dL_law_1015 ?_
    refine lw_ci 1016 S (As := [.int (xs (nI i + (1 : Int32)).toNatClampNeg), .int (xs (nI i + (2 : Int32)).toNatClampNeg), .int (xs (nI i + (3 : Int32)).toNatClampNeg)]) (rest := [.int r]) (c_X11_sheet l X M1 (xs (nI i + (1 : Int32)).toNatClampNeg) (xs (nI i + (2 : Int32)).toNatClampNeg) (xs (nI i + (3 : Int32)).toNatClampNeg) r M2 e2) (hO_83 X) rfl (cwV 3 (lw_hts S) gL_law_X11_sheet rfl rfl rfl (by decide +kernel) ⟨by decide +kernel, by decide +kernel⟩) rfl rfl (Nat.le_of_ble_eq_true rfl) dL_law_1016 ?_
    refine lw_eqT 1019 S 1325 rfl dL_law_1019 (by decide) ?_
    exact next M2 hI
set_option maxHeartbeats 4000000 in
set_option maxRecDepth 100000 in
theorem lw_case_25 {p : Program} {l : Launch} {e : Env} {s : State} {m : MethodId} {below : List Frame} {meth : Method} {c : Code} {b L : Nat} {xs : Nat → Int32} {X : GE} (S : LX p s m meth c b L xs X) {Inv : MM → Prop} (hs : St_lose Inv) (M : MM) (hI : Inv M) (i : Nat) (hi : i + 6 ≤ L) (next : ∀ M2 : MM, Inv M2 → LV p l e s m b below meth c X M2 1325 [(0, .ref b), (1, .ref (X.2.2 0)), (2, .ref (X.2.2 83)), (3, .int (nI i))] []) : LV p l e s m b below meth c X M 1024 [(0, .ref b), (1, .ref (X.2.2 0)), (2, .ref (X.2.2 83)), (3, .int (nI i))] [] := by
    have h1 : vp_in (nI i + (1 : Int32)) L := lw_in S (k := 1) (by omega)
    obtain ⟨r, M1, M2, e1, e2, hI⟩ := hs M hI (xs (nI i + (1 : Int32)).toNatClampNeg)
    refine lw_aload_n 1024 S 1 1 dL_law_1024 rfl rfl ?_
    refine lw_aload_n 1025 S 0 0 dL_law_1025 rfl rfl ?_
    refine lw_iload_n 1026 S 3 3 dL_law_1026 rfl rfl ?_
    refine lw_iconst 1027 S (1 : Int32) dL_law_1027 (by decide) ?_
    refine lw_iadd 1028 S dL_law_1028 ?_
    refine lw_sld 1029 S (h1) dL_law_1029 ?_
    refine lw_ci 1030 S (As := [.int (xs (nI i + (1 : Int32)).toNatClampNeg)]) (rest := []) (c_X10_lose l X M (xs (nI i + (1 : Int32)).toNatClampNeg) r M1 e1) (hO_0 X) rfl (cwV 1 (lw_hts S) gL_law_X10_lose rfl rfl rfl (by decide +kernel) ⟨by decide +kernel, by decide +kernel⟩) rfl rfl (Nat.le_of_ble_eq_true rfl) dL_law_1030 ?_
    refine lw_aload_n 1033 S 2 2 dL_law_1033 rfl rfl ?_
    refine lw_aload_n 1034 S 0 0 dL_law_1034 rfl rfl ?_
    refine lw_iload_n 1035 S 3 3 dL_law_1035 rfl rfl ?_
    refine lw_iconst 1036 S (1 : Int32) dL_law_1036 (by decide) ?_
    refine lw_iadd 1037 S dL_law_1037 ?_
    refine lw_sld 1038 S (h1) dL_law_1038 ?_
    refine lw_ci 1039 S (As := [.int (xs (nI i + (1 : Int32)).toNatClampNeg)]) (rest := [.int r]) (c_X11_lose l X M1 (xs (nI i + (1 : Int32)).toNatClampNeg) r M2 e2) (hO_83 X) rfl (cwV 1 (lw_hts S) gL_law_X11_lose rfl rfl rfl (by decide +kernel) ⟨by decide +kernel, by decide +kernel⟩) rfl rfl (Nat.le_of_ble_eq_true rfl) dL_law_1039 ?_
    refine lw_eqT 1042 S 1325 rfl dL_law_1042 (by decide) ?_
    exact next M2 hI
set_option maxHeartbeats 4000000 in
set_option maxRecDepth 100000 in
theorem lw_case_26 {p : Program} {l : Launch} {e : Env} {s : State} {m : MethodId} {below : List Frame} {meth : Method} {c : Code} {b L : Nat} {xs : Nat → Int32} {X : GE} (S : LX p s m meth c b L xs X) {Inv : MM → Prop} (hs : St_put Inv) (M : MM) (hI : Inv M) (i : Nat) (hi : i + 6 ≤ L) (next : ∀ M2 : MM, Inv M2 → LV p l e s m b below meth c X M2 1325 [(0, .ref b), (1, .ref (X.2.2 0)), (2, .ref (X.2.2 83)), (3, .int (nI i))] []) : LV p l e s m b below meth c X M 1047 [(0, .ref b), (1, .ref (X.2.2 0)), (2, .ref (X.2.2 83)), (3, .int (nI i))] [] := by
    have h1 : vp_in (nI i + (1 : Int32)) L := lw_in S (k := 1) (by omega)
    have h2 : vp_in (nI i + (2 : Int32)) L := lw_in S (k := 2) (by omega)
    have h3 : vp_in (nI i + (3 : Int32)) L := lw_in S (k := 3) (by omega)
    obtain ⟨r, M1, M2, e1, e2, hI⟩ := hs M hI (xs (nI i + (1 : Int32)).toNatClampNeg) (xs (nI i + (2 : Int32)).toNatClampNeg) (xs (nI i + (3 : Int32)).toNatClampNeg)
    refine lw_aload_n 1047 S 1 1 dL_law_1047 rfl rfl ?_
    refine lw_aload_n 1048 S 0 0 dL_law_1048 rfl rfl ?_
    refine lw_iload_n 1049 S 3 3 dL_law_1049 rfl rfl ?_
    refine lw_iconst 1050 S (1 : Int32) dL_law_1050 (by decide) ?_
    refine lw_iadd 1051 S dL_law_1051 ?_
    refine lw_sld 1052 S (h1) dL_law_1052 ?_
    refine lw_aload_n 1053 S 0 0 dL_law_1053 rfl rfl ?_
    refine lw_iload_n 1054 S 3 3 dL_law_1054 rfl rfl ?_
    refine lw_iconst 1055 S (2 : Int32) dL_law_1055 (by decide) ?_
    refine lw_iadd 1056 S dL_law_1056 ?_
    refine lw_sld 1057 S (h2) dL_law_1057 ?_
    refine lw_aload_n 1058 S 0 0 dL_law_1058 rfl rfl ?_
    refine lw_iload_n 1059 S 3 3 dL_law_1059 rfl rfl ?_
    refine lw_iconst 1060 S (3 : Int32) dL_law_1060 (by decide) ?_
    refine lw_iadd 1061 S dL_law_1061 ?_
    refine lw_sld 1062 S (h3) dL_law_1062 ?_
    refine lw_ci 1063 S (As := [.int (xs (nI i + (1 : Int32)).toNatClampNeg), .int (xs (nI i + (2 : Int32)).toNatClampNeg), .int (xs (nI i + (3 : Int32)).toNatClampNeg)]) (rest := []) (c_X10_put l X M (xs (nI i + (1 : Int32)).toNatClampNeg) (xs (nI i + (2 : Int32)).toNatClampNeg) (xs (nI i + (3 : Int32)).toNatClampNeg) r M1 e1) (hO_0 X) rfl (cwV 3 (lw_hts S) gL_law_X10_put rfl rfl rfl (by decide +kernel) ⟨by decide +kernel, by decide +kernel⟩) rfl rfl (Nat.le_of_ble_eq_true rfl) dL_law_1063 ?_
    refine lw_aload_n 1066 S 2 2 dL_law_1066 rfl rfl ?_
    refine lw_aload_n 1067 S 0 0 dL_law_1067 rfl rfl ?_
    refine lw_iload_n 1068 S 3 3 dL_law_1068 rfl rfl ?_
    refine lw_iconst 1069 S (1 : Int32) dL_law_1069 (by decide) ?_
    refine lw_iadd 1070 S dL_law_1070 ?_
    refine lw_sld 1071 S (h1) dL_law_1071 ?_
    refine lw_aload_n 1072 S 0 0 dL_law_1072 rfl rfl ?_
    refine lw_iload_n 1073 S 3 3 dL_law_1073 rfl rfl ?_
    refine lw_iconst 1074 S (2 : Int32) dL_law_1074 (by decide) ?_
    refine lw_iadd 1075 S dL_law_1075 ?_
    refine lw_sld 1076 S (h2) dL_law_1076 ?_
    refine lw_aload_n 1077 S 0 0 dL_law_1077 rfl rfl ?_
    refine lw_iload_n 1078 S 3 3 dL_law_1078 rfl rfl ?_
    refine lw_iconst 1079 S (3 : Int32) dL_law_1079 (by decide) ?_
    refine lw_iadd 1080 S dL_law_1080 ?_
    refine lw_sld 1081 S (h3) dL_law_1081 ?_
    refine lw_ci 1082 S (As := [.int (xs (nI i + (1 : Int32)).toNatClampNeg), .int (xs (nI i + (2 : Int32)).toNatClampNeg), .int (xs (nI i + (3 : Int32)).toNatClampNeg)]) (rest := [.int r]) (c_X11_put l X M1 (xs (nI i + (1 : Int32)).toNatClampNeg) (xs (nI i + (2 : Int32)).toNatClampNeg) (xs (nI i + (3 : Int32)).toNatClampNeg) r M2 e2) (hO_83 X) rfl (cwV 3 (lw_hts S) gL_law_X11_put rfl rfl rfl (by decide +kernel) ⟨by decide +kernel, by decide +kernel⟩) rfl rfl (Nat.le_of_ble_eq_true rfl) dL_law_1082 ?_
    refine lw_eqT 1085 S 1325 rfl dL_law_1085 (by decide) ?_
    exact next M2 hI
set_option maxHeartbeats 4000000 in
set_option maxRecDepth 100000 in
theorem lw_case_27 {p : Program} {l : Launch} {e : Env} {s : State} {m : MethodId} {below : List Frame} {meth : Method} {c : Code} {b L : Nat} {xs : Nat → Int32} {X : GE} (S : LX p s m meth c b L xs X) {Inv : MM → Prop} (hs : St_cell Inv) (M : MM) (hI : Inv M) (i : Nat) (hi : i + 6 ≤ L) (next : ∀ M2 : MM, Inv M2 → LV p l e s m b below meth c X M2 1325 [(0, .ref b), (1, .ref (X.2.2 0)), (2, .ref (X.2.2 83)), (3, .int (nI i))] []) : LV p l e s m b below meth c X M 1090 [(0, .ref b), (1, .ref (X.2.2 0)), (2, .ref (X.2.2 83)), (3, .int (nI i))] [] := by
    have h1 : vp_in (nI i + (1 : Int32)) L := lw_in S (k := 1) (by omega)
    have h2 : vp_in (nI i + (2 : Int32)) L := lw_in S (k := 2) (by omega)
    have h3 : vp_in (nI i + (3 : Int32)) L := lw_in S (k := 3) (by omega)
    obtain ⟨r, M1, M2, e1, e2, hI⟩ := hs M hI (xs (nI i + (1 : Int32)).toNatClampNeg) (xs (nI i + (2 : Int32)).toNatClampNeg) (xs (nI i + (3 : Int32)).toNatClampNeg)
    refine lw_aload_n 1090 S 1 1 dL_law_1090 rfl rfl ?_
    refine lw_aload_n 1091 S 0 0 dL_law_1091 rfl rfl ?_
    refine lw_iload_n 1092 S 3 3 dL_law_1092 rfl rfl ?_
    refine lw_iconst 1093 S (1 : Int32) dL_law_1093 (by decide) ?_
    refine lw_iadd 1094 S dL_law_1094 ?_
    refine lw_sld 1095 S (h1) dL_law_1095 ?_
    refine lw_aload_n 1096 S 0 0 dL_law_1096 rfl rfl ?_
    refine lw_iload_n 1097 S 3 3 dL_law_1097 rfl rfl ?_
    refine lw_iconst 1098 S (2 : Int32) dL_law_1098 (by decide) ?_
    refine lw_iadd 1099 S dL_law_1099 ?_
    refine lw_sld 1100 S (h2) dL_law_1100 ?_
    refine lw_aload_n 1101 S 0 0 dL_law_1101 rfl rfl ?_
    refine lw_iload_n 1102 S 3 3 dL_law_1102 rfl rfl ?_
    refine lw_iconst 1103 S (3 : Int32) dL_law_1103 (by decide) ?_
    refine lw_iadd 1104 S dL_law_1104 ?_
    refine lw_sld 1105 S (h3) dL_law_1105 ?_
    refine lw_cl 1106 S (As := [.int (xs (nI i + (1 : Int32)).toNatClampNeg), .int (xs (nI i + (2 : Int32)).toNatClampNeg), .int (xs (nI i + (3 : Int32)).toNatClampNeg)]) (rest := []) (c_X10_cell l X M (xs (nI i + (1 : Int32)).toNatClampNeg) (xs (nI i + (2 : Int32)).toNatClampNeg) (xs (nI i + (3 : Int32)).toNatClampNeg) r M1 e1) (hO_0 X) rfl (cwV 3 (lw_hts S) gL_law_X10_cell rfl rfl rfl (by decide +kernel) ⟨by decide +kernel, by decide +kernel⟩) rfl rfl (Nat.le_of_ble_eq_true rfl) dL_law_1106 ?_
    refine lw_aload_n 1109 S 2 2 dL_law_1109 rfl rfl ?_
    refine lw_aload_n 1110 S 0 0 dL_law_1110 rfl rfl ?_
    refine lw_iload_n 1111 S 3 3 dL_law_1111 rfl rfl ?_
    refine lw_iconst 1112 S (1 : Int32) dL_law_1112 (by decide) ?_
    refine lw_iadd 1113 S dL_law_1113 ?_
    refine lw_sld 1114 S (h1) dL_law_1114 ?_
    refine lw_aload_n 1115 S 0 0 dL_law_1115 rfl rfl ?_
    refine lw_iload_n 1116 S 3 3 dL_law_1116 rfl rfl ?_
    refine lw_iconst 1117 S (2 : Int32) dL_law_1117 (by decide) ?_
    refine lw_iadd 1118 S dL_law_1118 ?_
    refine lw_sld 1119 S (h2) dL_law_1119 ?_
    refine lw_aload_n 1120 S 0 0 dL_law_1120 rfl rfl ?_
    refine lw_iload_n 1121 S 3 3 dL_law_1121 rfl rfl ?_
    refine lw_iconst 1122 S (3 : Int32) dL_law_1122 (by decide) ?_
    refine lw_iadd 1123 S dL_law_1123 ?_
    refine lw_sld 1124 S (h3) dL_law_1124 ?_
    refine lw_cl 1125 S (As := [.int (xs (nI i + (1 : Int32)).toNatClampNeg), .int (xs (nI i + (2 : Int32)).toNatClampNeg), .int (xs (nI i + (3 : Int32)).toNatClampNeg)]) (rest := [.long r]) (c_X11_cell l X M1 (xs (nI i + (1 : Int32)).toNatClampNeg) (xs (nI i + (2 : Int32)).toNatClampNeg) (xs (nI i + (3 : Int32)).toNatClampNeg) r M2 e2) (hO_83 X) rfl (cwV 3 (lw_hts S) gL_law_X11_cell rfl rfl rfl (by decide +kernel) ⟨by decide +kernel, by decide +kernel⟩) rfl rfl (Nat.le_of_ble_eq_true rfl) dL_law_1125 ?_
    refine lw_lcmp 1128 S dL_law_1128 ?_
    refine lw_ifeqT 1129 S 1325 (lg_cmp_self _) dL_law_1129 (by decide) ?_
    exact next M2 hI
set_option maxHeartbeats 4000000 in
set_option maxRecDepth 100000 in
theorem lw_case_28 {p : Program} {l : Launch} {e : Env} {s : State} {m : MethodId} {below : List Frame} {meth : Method} {c : Code} {b L : Nat} {xs : Nat → Int32} {X : GE} (S : LX p s m meth c b L xs X) {Inv : MM → Prop} (hs : St_copy Inv) (M : MM) (hI : Inv M) (i : Nat) (hi : i + 6 ≤ L) (next : ∀ M2 : MM, Inv M2 → LV p l e s m b below meth c X M2 1325 [(0, .ref b), (1, .ref (X.2.2 0)), (2, .ref (X.2.2 83)), (3, .int (nI i))] []) : LV p l e s m b below meth c X M 1134 [(0, .ref b), (1, .ref (X.2.2 0)), (2, .ref (X.2.2 83)), (3, .int (nI i))] [] := by
    have h1 : vp_in (nI i + (1 : Int32)) L := lw_in S (k := 1) (by omega)
    have h2 : vp_in (nI i + (2 : Int32)) L := lw_in S (k := 2) (by omega)
    have h3 : vp_in (nI i + (3 : Int32)) L := lw_in S (k := 3) (by omega)
    have h4 : vp_in (nI i + (4 : Int32)) L := lw_in S (k := 4) (by omega)
    have h5 : vp_in (nI i + (5 : Int32)) L := lw_in S (k := 5) (by omega)
    obtain ⟨r, M1, M2, e1, e2, hI⟩ := hs M hI (xs (nI i + (1 : Int32)).toNatClampNeg) (xs (nI i + (2 : Int32)).toNatClampNeg) (xs (nI i + (3 : Int32)).toNatClampNeg) (xs (nI i + (4 : Int32)).toNatClampNeg) (xs (nI i + (5 : Int32)).toNatClampNeg)
    refine lw_aload_n 1134 S 1 1 dL_law_1134 rfl rfl ?_
    refine lw_aload_n 1135 S 0 0 dL_law_1135 rfl rfl ?_
    refine lw_iload_n 1136 S 3 3 dL_law_1136 rfl rfl ?_
    refine lw_iconst 1137 S (1 : Int32) dL_law_1137 (by decide) ?_
    refine lw_iadd 1138 S dL_law_1138 ?_
    refine lw_sld 1139 S (h1) dL_law_1139 ?_
    refine lw_aload_n 1140 S 0 0 dL_law_1140 rfl rfl ?_
    refine lw_iload_n 1141 S 3 3 dL_law_1141 rfl rfl ?_
    refine lw_iconst 1142 S (2 : Int32) dL_law_1142 (by decide) ?_
    refine lw_iadd 1143 S dL_law_1143 ?_
    refine lw_sld 1144 S (h2) dL_law_1144 ?_
    refine lw_aload_n 1145 S 0 0 dL_law_1145 rfl rfl ?_
    refine lw_iload_n 1146 S 3 3 dL_law_1146 rfl rfl ?_
    refine lw_iconst 1147 S (3 : Int32) dL_law_1147 (by decide) ?_
    refine lw_iadd 1148 S dL_law_1148 ?_
    refine lw_sld 1149 S (h3) dL_law_1149 ?_
    refine lw_aload_n 1150 S 0 0 dL_law_1150 rfl rfl ?_
    refine lw_iload_n 1151 S 3 3 dL_law_1151 rfl rfl ?_
    refine lw_iconst 1152 S (4 : Int32) dL_law_1152 (by decide) ?_
    refine lw_iadd 1153 S dL_law_1153 ?_
    refine lw_sld 1154 S (h4) dL_law_1154 ?_
    refine lw_aload_n 1155 S 0 0 dL_law_1155 rfl rfl ?_
    refine lw_iload_n 1156 S 3 3 dL_law_1156 rfl rfl ?_
    refine lw_iconst 1157 S (5 : Int32) dL_law_1157 (by decide) ?_
    refine lw_iadd 1158 S dL_law_1158 ?_
    refine lw_sld 1159 S (h5) dL_law_1159 ?_
    refine lw_ci 1160 S (As := [.int (xs (nI i + (1 : Int32)).toNatClampNeg), .int (xs (nI i + (2 : Int32)).toNatClampNeg), .int (xs (nI i + (3 : Int32)).toNatClampNeg), .int (xs (nI i + (4 : Int32)).toNatClampNeg), .int (xs (nI i + (5 : Int32)).toNatClampNeg)]) (rest := []) (c_X10_copy l X M (xs (nI i + (1 : Int32)).toNatClampNeg) (xs (nI i + (2 : Int32)).toNatClampNeg) (xs (nI i + (3 : Int32)).toNatClampNeg) (xs (nI i + (4 : Int32)).toNatClampNeg) (xs (nI i + (5 : Int32)).toNatClampNeg) r M1 e1) (hO_0 X) rfl (cwV 5 (lw_hts S) gL_law_X10_copy rfl rfl rfl (by decide +kernel) ⟨by decide +kernel, by decide +kernel⟩) rfl rfl (Nat.le_of_ble_eq_true rfl) dL_law_1160 ?_
    refine lw_aload_n 1163 S 2 2 dL_law_1163 rfl rfl ?_
    refine lw_aload_n 1164 S 0 0 dL_law_1164 rfl rfl ?_
    refine lw_iload_n 1165 S 3 3 dL_law_1165 rfl rfl ?_
    refine lw_iconst 1166 S (1 : Int32) dL_law_1166 (by decide) ?_
    refine lw_iadd 1167 S dL_law_1167 ?_
    refine lw_sld 1168 S (h1) dL_law_1168 ?_
    refine lw_aload_n 1169 S 0 0 dL_law_1169 rfl rfl ?_
    refine lw_iload_n 1170 S 3 3 dL_law_1170 rfl rfl ?_
    refine lw_iconst 1171 S (2 : Int32) dL_law_1171 (by decide) ?_
    refine lw_iadd 1172 S dL_law_1172 ?_
    refine lw_sld 1173 S (h2) dL_law_1173 ?_
    refine lw_aload_n 1174 S 0 0 dL_law_1174 rfl rfl ?_
    refine lw_iload_n 1175 S 3 3 dL_law_1175 rfl rfl ?_
    refine lw_iconst 1176 S (3 : Int32) dL_law_1176 (by decide) ?_
    refine lw_iadd 1177 S dL_law_1177 ?_
    refine lw_sld 1178 S (h3) dL_law_1178 ?_
    refine lw_aload_n 1179 S 0 0 dL_law_1179 rfl rfl ?_
    refine lw_iload_n 1180 S 3 3 dL_law_1180 rfl rfl ?_
    refine lw_iconst 1181 S (4 : Int32) dL_law_1181 (by decide) ?_
    refine lw_iadd 1182 S dL_law_1182 ?_
    refine lw_sld 1183 S (h4) dL_law_1183 ?_
    refine lw_aload_n 1184 S 0 0 dL_law_1184 rfl rfl ?_
    refine lw_iload_n 1185 S 3 3 dL_law_1185 rfl rfl ?_
    refine lw_iconst 1186 S (5 : Int32) dL_law_1186 (by decide) ?_
    refine lw_iadd 1187 S dL_law_1187 ?_
    refine lw_sld 1188 S (h5) dL_law_1188 ?_
    refine lw_ci 1189 S (As := [.int (xs (nI i + (1 : Int32)).toNatClampNeg), .int (xs (nI i + (2 : Int32)).toNatClampNeg), .int (xs (nI i + (3 : Int32)).toNatClampNeg), .int (xs (nI i + (4 : Int32)).toNatClampNeg), .int (xs (nI i + (5 : Int32)).toNatClampNeg)]) (rest := [.int r]) (c_X11_copy l X M1 (xs (nI i + (1 : Int32)).toNatClampNeg) (xs (nI i + (2 : Int32)).toNatClampNeg) (xs (nI i + (3 : Int32)).toNatClampNeg) (xs (nI i + (4 : Int32)).toNatClampNeg) (xs (nI i + (5 : Int32)).toNatClampNeg) r M2 e2) (hO_83 X) rfl (cwV 5 (lw_hts S) gL_law_X11_copy rfl rfl rfl (by decide +kernel) ⟨by decide +kernel, by decide +kernel⟩) rfl rfl (Nat.le_of_ble_eq_true rfl) dL_law_1189 ?_
    refine lw_eqT 1192 S 1325 rfl dL_law_1192 (by decide) ?_
    exact next M2 hI
set_option maxHeartbeats 4000000 in
set_option maxRecDepth 100000 in
theorem lw_case_29 {p : Program} {l : Launch} {e : Env} {s : State} {m : MethodId} {below : List Frame} {meth : Method} {c : Code} {b L : Nat} {xs : Nat → Int32} {X : GE} (S : LX p s m meth c b L xs X) {Inv : MM → Prop} (hs : St_tell Inv) (M : MM) (hI : Inv M) (i : Nat) (hi : i + 6 ≤ L) (next : ∀ M2 : MM, Inv M2 → LV p l e s m b below meth c X M2 1325 [(0, .ref b), (1, .ref (X.2.2 0)), (2, .ref (X.2.2 83)), (3, .int (nI i))] []) : LV p l e s m b below meth c X M 1197 [(0, .ref b), (1, .ref (X.2.2 0)), (2, .ref (X.2.2 83)), (3, .int (nI i))] [] := by
    have h1 : vp_in (nI i + (1 : Int32)) L := lw_in S (k := 1) (by omega)
    obtain ⟨r, M1, M2, e1, e2, hI⟩ := hs M hI (xs (nI i + (1 : Int32)).toNatClampNeg)
    refine lw_aload_n 1197 S 1 1 dL_law_1197 rfl rfl ?_
    refine lw_aload_n 1198 S 0 0 dL_law_1198 rfl rfl ?_
    refine lw_iload_n 1199 S 3 3 dL_law_1199 rfl rfl ?_
    refine lw_iconst 1200 S (1 : Int32) dL_law_1200 (by decide) ?_
    refine lw_iadd 1201 S dL_law_1201 ?_
    refine lw_sld 1202 S (h1) dL_law_1202 ?_
    refine lw_ci 1203 S (As := [.int (xs (nI i + (1 : Int32)).toNatClampNeg)]) (rest := []) (c_X10_tell l X M (xs (nI i + (1 : Int32)).toNatClampNeg) r M1 e1) (hO_0 X) rfl (cwV 1 (lw_hts S) gL_law_X10_tell rfl rfl rfl (by decide +kernel) ⟨by decide +kernel, by decide +kernel⟩) rfl rfl (Nat.le_of_ble_eq_true rfl) dL_law_1203 ?_
    refine lw_aload_n 1206 S 2 2 dL_law_1206 rfl rfl ?_
    refine lw_aload_n 1207 S 0 0 dL_law_1207 rfl rfl ?_
    refine lw_iload_n 1208 S 3 3 dL_law_1208 rfl rfl ?_
    refine lw_iconst 1209 S (1 : Int32) dL_law_1209 (by decide) ?_
    refine lw_iadd 1210 S dL_law_1210 ?_
    refine lw_sld 1211 S (h1) dL_law_1211 ?_
    refine lw_ci 1212 S (As := [.int (xs (nI i + (1 : Int32)).toNatClampNeg)]) (rest := [.int r]) (c_X11_tell l X M1 (xs (nI i + (1 : Int32)).toNatClampNeg) r M2 e2) (hO_83 X) rfl (cwV 1 (lw_hts S) gL_law_X11_tell rfl rfl rfl (by decide +kernel) ⟨by decide +kernel, by decide +kernel⟩) rfl rfl (Nat.le_of_ble_eq_true rfl) dL_law_1212 ?_
    refine lw_eqT 1215 S 1325 rfl dL_law_1215 (by decide) ?_
    exact next M2 hI
set_option maxHeartbeats 4000000 in
set_option maxRecDepth 100000 in
theorem lw_case_30 {p : Program} {l : Launch} {e : Env} {s : State} {m : MethodId} {below : List Frame} {meth : Method} {c : Code} {b L : Nat} {xs : Nat → Int32} {X : GE} (S : LX p s m meth c b L xs X) {Inv : MM → Prop} (hs : St_call Inv) (M : MM) (hI : Inv M) (i : Nat) (hi : i + 6 ≤ L) (next : ∀ M2 : MM, Inv M2 → LV p l e s m b below meth c X M2 1325 [(0, .ref b), (1, .ref (X.2.2 0)), (2, .ref (X.2.2 83)), (3, .int (nI i))] []) : LV p l e s m b below meth c X M 1220 [(0, .ref b), (1, .ref (X.2.2 0)), (2, .ref (X.2.2 83)), (3, .int (nI i))] [] := by
    have h1 : vp_in (nI i + (1 : Int32)) L := lw_in S (k := 1) (by omega)
    obtain ⟨r, M1, M2, e1, e2, hI⟩ := hs M hI (xs (nI i + (1 : Int32)).toNatClampNeg)
    refine lw_aload_n 1220 S 1 1 dL_law_1220 rfl rfl ?_
    refine lw_aload_n 1221 S 0 0 dL_law_1221 rfl rfl ?_
    refine lw_iload_n 1222 S 3 3 dL_law_1222 rfl rfl ?_
    refine lw_iconst 1223 S (1 : Int32) dL_law_1223 (by decide) ?_
    refine lw_iadd 1224 S dL_law_1224 ?_
    refine lw_sld 1225 S (h1) dL_law_1225 ?_
    refine lw_ci 1226 S (As := [.int (xs (nI i + (1 : Int32)).toNatClampNeg)]) (rest := []) (c_X10_call l X M (xs (nI i + (1 : Int32)).toNatClampNeg) r M1 e1) (hO_0 X) rfl (cwV 1 (lw_hts S) gL_law_X10_call rfl rfl rfl (by decide +kernel) ⟨by decide +kernel, by decide +kernel⟩) rfl rfl (Nat.le_of_ble_eq_true rfl) dL_law_1226 ?_
    refine lw_aload_n 1229 S 2 2 dL_law_1229 rfl rfl ?_
    refine lw_aload_n 1230 S 0 0 dL_law_1230 rfl rfl ?_
    refine lw_iload_n 1231 S 3 3 dL_law_1231 rfl rfl ?_
    refine lw_iconst 1232 S (1 : Int32) dL_law_1232 (by decide) ?_
    refine lw_iadd 1233 S dL_law_1233 ?_
    refine lw_sld 1234 S (h1) dL_law_1234 ?_
    refine lw_ci 1235 S (As := [.int (xs (nI i + (1 : Int32)).toNatClampNeg)]) (rest := [.int r]) (c_X11_call l X M1 (xs (nI i + (1 : Int32)).toNatClampNeg) r M2 e2) (hO_83 X) rfl (cwV 1 (lw_hts S) gL_law_X11_call rfl rfl rfl (by decide +kernel) ⟨by decide +kernel, by decide +kernel⟩) rfl rfl (Nat.le_of_ble_eq_true rfl) dL_law_1235 ?_
    refine lw_eqT 1238 S 1325 rfl dL_law_1238 (by decide) ?_
    exact next M2 hI
set_option maxHeartbeats 4000000 in
set_option maxRecDepth 100000 in
theorem lw_case_31 {p : Program} {l : Launch} {e : Env} {s : State} {m : MethodId} {below : List Frame} {meth : Method} {c : Code} {b L : Nat} {xs : Nat → Int32} {X : GE} (S : LX p s m meth c b L xs X) {Inv : MM → Prop} (hs : St_as Inv) (M : MM) (hI : Inv M) (i : Nat) (hi : i + 6 ≤ L) (next : ∀ M2 : MM, Inv M2 → LV p l e s m b below meth c X M2 1325 [(0, .ref b), (1, .ref (X.2.2 0)), (2, .ref (X.2.2 83)), (3, .int (nI i))] []) : LV p l e s m b below meth c X M 1243 [(0, .ref b), (1, .ref (X.2.2 0)), (2, .ref (X.2.2 83)), (3, .int (nI i))] [] := by
    have h1 : vp_in (nI i + (1 : Int32)) L := lw_in S (k := 1) (by omega)
    have h2 : vp_in (nI i + (2 : Int32)) L := lw_in S (k := 2) (by omega)
    obtain ⟨r, M1, M2, e1, e2, hI⟩ := hs M hI (xs (nI i + (1 : Int32)).toNatClampNeg) (xs (nI i + (2 : Int32)).toNatClampNeg)
    refine lw_aload_n 1243 S 1 1 dL_law_1243 rfl rfl ?_
    refine lw_aload_n 1244 S 0 0 dL_law_1244 rfl rfl ?_
    refine lw_iload_n 1245 S 3 3 dL_law_1245 rfl rfl ?_
    refine lw_iconst 1246 S (1 : Int32) dL_law_1246 (by decide) ?_
    refine lw_iadd 1247 S dL_law_1247 ?_
    refine lw_sld 1248 S (h1) dL_law_1248 ?_
    refine lw_aload_n 1249 S 0 0 dL_law_1249 rfl rfl ?_
    refine lw_iload_n 1250 S 3 3 dL_law_1250 rfl rfl ?_
    refine lw_iconst 1251 S (2 : Int32) dL_law_1251 (by decide) ?_
    refine lw_iadd 1252 S dL_law_1252 ?_
    refine lw_sld 1253 S (h2) dL_law_1253 ?_
    refine lw_ci 1254 S (As := [.int (xs (nI i + (1 : Int32)).toNatClampNeg), .int (xs (nI i + (2 : Int32)).toNatClampNeg)]) (rest := []) (c_X10_as l X M (xs (nI i + (1 : Int32)).toNatClampNeg) (xs (nI i + (2 : Int32)).toNatClampNeg) r M1 e1) (hO_0 X) rfl (cwV 2 (lw_hts S) gL_law_X10_as rfl rfl rfl (by decide +kernel) ⟨by decide +kernel, by decide +kernel⟩) rfl rfl (Nat.le_of_ble_eq_true rfl) dL_law_1254 ?_
    refine lw_aload_n 1257 S 2 2 dL_law_1257 rfl rfl ?_
    refine lw_aload_n 1258 S 0 0 dL_law_1258 rfl rfl ?_
    refine lw_iload_n 1259 S 3 3 dL_law_1259 rfl rfl ?_
    refine lw_iconst 1260 S (1 : Int32) dL_law_1260 (by decide) ?_
    refine lw_iadd 1261 S dL_law_1261 ?_
    refine lw_sld 1262 S (h1) dL_law_1262 ?_
    refine lw_aload_n 1263 S 0 0 dL_law_1263 rfl rfl ?_
    refine lw_iload_n 1264 S 3 3 dL_law_1264 rfl rfl ?_
    refine lw_iconst 1265 S (2 : Int32) dL_law_1265 (by decide) ?_
    refine lw_iadd 1266 S dL_law_1266 ?_
    refine lw_sld 1267 S (h2) dL_law_1267 ?_
    refine lw_ci 1268 S (As := [.int (xs (nI i + (1 : Int32)).toNatClampNeg), .int (xs (nI i + (2 : Int32)).toNatClampNeg)]) (rest := [.int r]) (c_X11_as l X M1 (xs (nI i + (1 : Int32)).toNatClampNeg) (xs (nI i + (2 : Int32)).toNatClampNeg) r M2 e2) (hO_83 X) rfl (cwV 2 (lw_hts S) gL_law_X11_as rfl rfl rfl (by decide +kernel) ⟨by decide +kernel, by decide +kernel⟩) rfl rfl (Nat.le_of_ble_eq_true rfl) dL_law_1268 ?_
    refine lw_eqT 1271 S 1325 rfl dL_law_1271 (by decide) ?_
    exact next M2 hI
set_option maxHeartbeats 4000000 in
set_option maxRecDepth 100000 in
theorem lw_case_32 {p : Program} {l : Launch} {e : Env} {s : State} {m : MethodId} {below : List Frame} {meth : Method} {c : Code} {b L : Nat} {xs : Nat → Int32} {X : GE} (S : LX p s m meth c b L xs X) {Inv : MM → Prop} (hs : St_trace Inv) (M : MM) (hI : Inv M) (i : Nat) (hi : i + 6 ≤ L) (next : ∀ M2 : MM, Inv M2 → LV p l e s m b below meth c X M2 1325 [(0, .ref b), (1, .ref (X.2.2 0)), (2, .ref (X.2.2 83)), (3, .int (nI i))] []) : LV p l e s m b below meth c X M 1276 [(0, .ref b), (1, .ref (X.2.2 0)), (2, .ref (X.2.2 83)), (3, .int (nI i))] [] := by
    obtain ⟨r, e1, e2, hI⟩ := hs M hI
    refine lw_aload_n 1276 S 1 1 dL_law_1276 rfl rfl ?_
    refine lw_ci 1277 S (As := []) (rest := []) (c_X10_trace l X M r e1) (hO_0 X) rfl (cwV 0 (lw_hts S) gL_law_X10_trace rfl rfl rfl (by decide +kernel) ⟨by decide +kernel, by decide +kernel⟩) rfl rfl (Nat.le_of_ble_eq_true rfl) dL_law_1277 ?_
    refine lw_aload_n 1280 S 2 2 dL_law_1280 rfl rfl ?_
    refine lw_ci 1281 S (As := []) (rest := [.int r]) (c_X11_trace l X M r e2) (hO_83 X) rfl (cwV 0 (lw_hts S) gL_law_X11_trace rfl rfl rfl (by decide +kernel) ⟨by decide +kernel, by decide +kernel⟩) rfl rfl (Nat.le_of_ble_eq_true rfl) dL_law_1281 ?_
    refine lw_eqT 1284 S 1325 rfl dL_law_1284 (by decide) ?_
    exact next M hI
set_option maxHeartbeats 4000000 in
set_option maxRecDepth 100000 in
theorem lw_case_33 {p : Program} {l : Launch} {e : Env} {s : State} {m : MethodId} {below : List Frame} {meth : Method} {c : Code} {b L : Nat} {xs : Nat → Int32} {X : GE} (S : LX p s m meth c b L xs X) {Inv : MM → Prop} (hs : St_fault Inv) (M : MM) (hI : Inv M) (i : Nat) (hi : i + 6 ≤ L) (next : ∀ M2 : MM, Inv M2 → LV p l e s m b below meth c X M2 1325 [(0, .ref b), (1, .ref (X.2.2 0)), (2, .ref (X.2.2 83)), (3, .int (nI i))] []) : LV p l e s m b below meth c X M 1289 [(0, .ref b), (1, .ref (X.2.2 0)), (2, .ref (X.2.2 83)), (3, .int (nI i))] [] := by
    obtain ⟨r, e1, e2, hI⟩ := hs M hI
    refine lw_aload_n 1289 S 1 1 dL_law_1289 rfl rfl ?_
    refine lw_ci 1290 S (As := []) (rest := []) (c_X10_fault l X M r e1) (hO_0 X) rfl (cwV 0 (lw_hts S) gL_law_X10_fault rfl rfl rfl (by decide +kernel) ⟨by decide +kernel, by decide +kernel⟩) rfl rfl (Nat.le_of_ble_eq_true rfl) dL_law_1290 ?_
    refine lw_aload_n 1293 S 2 2 dL_law_1293 rfl rfl ?_
    refine lw_ci 1294 S (As := []) (rest := [.int r]) (c_X11_fault l X M r e2) (hO_83 X) rfl (cwV 0 (lw_hts S) gL_law_X11_fault rfl rfl rfl (by decide +kernel) ⟨by decide +kernel, by decide +kernel⟩) rfl rfl (Nat.le_of_ble_eq_true rfl) dL_law_1294 ?_
    refine lw_eqT 1297 S 1325 rfl dL_law_1297 (by decide) ?_
    exact next M hI
set_option maxHeartbeats 4000000 in
set_option maxRecDepth 100000 in
theorem lw_case_34 {p : Program} {l : Launch} {e : Env} {s : State} {m : MethodId} {below : List Frame} {meth : Method} {c : Code} {b L : Nat} {xs : Nat → Int32} {X : GE} (S : LX p s m meth c b L xs X) {Inv : MM → Prop} (hs : St_many Inv) (M : MM) (hI : Inv M) (i : Nat) (hi : i + 6 ≤ L) (next : ∀ M2 : MM, Inv M2 → LV p l e s m b below meth c X M2 1325 [(0, .ref b), (1, .ref (X.2.2 0)), (2, .ref (X.2.2 83)), (3, .int (nI i))] []) : LV p l e s m b below meth c X M 1302 [(0, .ref b), (1, .ref (X.2.2 0)), (2, .ref (X.2.2 83)), (3, .int (nI i))] [] := by
    have h1 : vp_in (nI i + (1 : Int32)) L := lw_in S (k := 1) (by omega)
    obtain ⟨r, e1, e2, hI⟩ := hs M hI (xs (nI i + (1 : Int32)).toNatClampNeg)
    refine lw_aload_n 1302 S 1 1 dL_law_1302 rfl rfl ?_
    refine lw_aload_n 1303 S 0 0 dL_law_1303 rfl rfl ?_
    refine lw_iload_n 1304 S 3 3 dL_law_1304 rfl rfl ?_
    refine lw_iconst 1305 S (1 : Int32) dL_law_1305 (by decide) ?_
    refine lw_iadd 1306 S dL_law_1306 ?_
    refine lw_sld 1307 S (h1) dL_law_1307 ?_
    refine lw_ci 1308 S (As := [.int (xs (nI i + (1 : Int32)).toNatClampNeg)]) (rest := []) (c_X10_many l X M (xs (nI i + (1 : Int32)).toNatClampNeg) r e1) (hO_0 X) rfl (cwV 1 (lw_hts S) gL_law_X10_many rfl rfl rfl (by decide +kernel) ⟨by decide +kernel, by decide +kernel⟩) rfl rfl (Nat.le_of_ble_eq_true rfl) dL_law_1308 ?_
    refine lw_aload_n 1311 S 2 2 dL_law_1311 rfl rfl ?_
    refine lw_aload_n 1312 S 0 0 dL_law_1312 rfl rfl ?_
    refine lw_iload_n 1313 S 3 3 dL_law_1313 rfl rfl ?_
    refine lw_iconst 1314 S (1 : Int32) dL_law_1314 (by decide) ?_
    refine lw_iadd 1315 S dL_law_1315 ?_
    refine lw_sld 1316 S (h1) dL_law_1316 ?_
    refine lw_ci 1317 S (As := [.int (xs (nI i + (1 : Int32)).toNatClampNeg)]) (rest := [.int r]) (c_X11_many l X M (xs (nI i + (1 : Int32)).toNatClampNeg) r e2) (hO_83 X) rfl (cwV 1 (lw_hts S) gL_law_X11_many rfl rfl rfl (by decide +kernel) ⟨by decide +kernel, by decide +kernel⟩) rfl rfl (Nat.le_of_ble_eq_true rfl) dL_law_1317 ?_
    refine lw_eqT 1320 S 1325 rfl dL_law_1320 (by decide) ?_
    exact next M hI
set_option maxHeartbeats 4000000 in
set_option maxRecDepth 100000 in
theorem lw_loop {p : Program} {l : Launch} {e : Env} {s : State} {m : MethodId} {below : List Frame} {meth : Method} {c : Code} {b L : Nat} {xs : Nat → Int32} {X : GE} (S : LX p s m meth c b L xs X) {Inv : MM → Prop} (hs : AllSt Inv) : ∀ (n i : Nat) (M : MM), Inv M → i ≤ L → L + 1 ≤ i + 6 * n → LV p l e s m b below meth c X M 18 [(0, .ref b), (1, .ref (X.2.2 0)), (2, .ref (X.2.2 83)), (3, .int (nI i))] [] := by
  obtain ⟨hs0, hs1, hs2, hs3, hs4, hs5, hs6, hs7, hs8, hs9, hs10, hs11, hs12, hs13, hs14, hs15, hs16, hs17, hs18, hs19, hs20, hs21, hs22, hs23, hs24, hs25, hs26, hs27, hs28, hs29, hs30, hs31, hs32, hs33, hs34⟩ := hs
  have hL := S.2.1
  intro n
  induction n with
  | zero =>
    intro i M hI h1 h2
    omega
  | succ n ih =>
    intro i M hI h1 h2
    refine lw_iload_n 18 S 3 3 dL_law_18 rfl rfl ?_
    refine lw_aload_n 19 S 0 0 dL_law_19 rfl rfl ?_
    refine lw_slen 20 S dL_law_20 ?_
    refine lw_bipush 21 S (6 : Int32) dL_law_21 (by decide) ?_
    refine lw_isub 23 S dL_law_23 ?_
    have e6 : (nI L - (6 : Int32)).toInt = (L : Int) - 6 := pk_sub_toInt (a := L) (b := 6) (by omega) (by omega)
    have ei : (nI i).toInt = (i : Int) := nI_toInt (by omega)
    refine lw_gt 24 S 1331 dL_law_24 (by decide) (fun _ => ?_) (fun q => ?_)
    · intro H locs ls hG hS hl
      refine lv_iconst (v := 1) S.1.1 S.1.2.1 dL_law_1331 (by decide) ?_
      refine va_forget (fun q hq => by have h3 := hS.2.2 q hq; have h4 := S.2.2.2.2; have h5 : X.2.2 0 ≤ q.base := h3; omega) ?_
      exact lw_ret S.1.1 S.1.2.1 S.1.2.2.1 S.1.2.2.2.2.2.2.2.2.1 dL_law_1332
    · have hi6 : i + 6 ≤ L := by
        rcases Nat.lt_or_ge L (i + 6) with h | h
        · exact absurd (Int32.lt_iff_toInt_lt.mpr (by rw [e6, ei]; omega)) q
        · exact h
      have next : ∀ M2 : MM, Inv M2 → LV p l e s m b below meth c X M2 1325 [(0, .ref b), (1, .ref (X.2.2 0)), (2, .ref (X.2.2 83)), (3, .int (nI i))] [] := by
        intro M2 hI2
        refine lw_iinc 1325 S 3 (nI (i + 6)) (lv' := [(3, .int (nI (i + 6))), (0, .ref b), (1, .ref (X.2.2 0)), (2, .ref (X.2.2 83))]) dL_law_1325 rfl (nI_add i 6) (by decide) rfl ?_
        refine lw_goto 1328 S 18 dL_law_1328 (by decide) ?_
        exact fun H locs ls hG hS hl => ih (i + 6) M2 hI2 hi6 (by omega) H locs ls hG hS (lv_sub hl [1, 2, 3, 0] rfl)
      refine lw_aload_n 27 S 0 0 dL_law_27 rfl rfl ?_
      refine lw_iload_n 28 S 3 3 dL_law_28 rfl rfl ?_
      refine lw_sld 29 S (vp_in_nI (by omega) (by omega)) dL_law_29 ?_
      refine lw_bipush 30 S (63 : Int32) dL_law_30 (by decide) ?_
      refine lw_iand 32 S dL_law_32 ?_
      generalize hx : xs (nI i).toNatClampNeg &&& (63 : Int32) = x
      by_cases q0 : x = 0
      · exact lw_tabIn 33 S 188 dL_law_33 (by rw [q0]; decide) (by rw [q0]; decide) (by rw [q0] <;> rfl) (by decide) (lw_case_0 S hs0 M hI i hi6 next)
      by_cases q1 : x = 1
      · exact lw_tabIn 33 S 241 dL_law_33 (by rw [q1]; decide) (by rw [q1]; decide) (by rw [q1] <;> rfl) (by decide) (lw_case_1 S hs1 M hI i hi6 next)
      by_cases q2 : x = 2
      · exact lw_tabIn 33 S 274 dL_law_33 (by rw [q2]; decide) (by rw [q2]; decide) (by rw [q2] <;> rfl) (by decide) (lw_case_2 S hs2 M hI i hi6 next)
      by_cases q3 : x = 3
      · exact lw_tabIn 33 S 287 dL_law_33 (by rw [q3]; decide) (by rw [q3]; decide) (by rw [q3] <;> rfl) (by decide) (lw_case_3 S hs3 M hI i hi6 next)
      by_cases q4 : x = 4
      · exact lw_tabIn 33 S 310 dL_law_33 (by rw [q4]; decide) (by rw [q4]; decide) (by rw [q4] <;> rfl) (by decide) (lw_case_4 S hs4 M hI i hi6 next)
      by_cases q5 : x = 5
      · exact lw_tabIn 33 S 333 dL_law_33 (by rw [q5]; decide) (by rw [q5]; decide) (by rw [q5] <;> rfl) (by decide) (lw_case_5 S hs5 M hI i hi6 next)
      by_cases q6 : x = 6
      · exact lw_tabIn 33 S 356 dL_law_33 (by rw [q6]; decide) (by rw [q6]; decide) (by rw [q6] <;> rfl) (by decide) (lw_case_6 S hs6 M hI i hi6 next)
      by_cases q7 : x = 7
      · exact lw_tabIn 33 S 389 dL_law_33 (by rw [q7]; decide) (by rw [q7]; decide) (by rw [q7] <;> rfl) (by decide) (lw_case_7 S hs7 M hI i hi6 next)
      by_cases q8 : x = 8
      · exact lw_tabIn 33 S 442 dL_law_33 (by rw [q8]; decide) (by rw [q8]; decide) (by rw [q8] <;> rfl) (by decide) (lw_case_8 S hs8 M hI i hi6 next)
      by_cases q9 : x = 9
      · exact lw_tabIn 33 S 475 dL_law_33 (by rw [q9]; decide) (by rw [q9]; decide) (by rw [q9] <;> rfl) (by decide) (lw_case_9 S hs9 M hI i hi6 next)
      by_cases q10 : x = 10
      · exact lw_tabIn 33 S 508 dL_law_33 (by rw [q10]; decide) (by rw [q10]; decide) (by rw [q10] <;> rfl) (by decide) (lw_case_10 S hs10 M hI i hi6 next)
      by_cases q11 : x = 11
      · exact lw_tabIn 33 S 521 dL_law_33 (by rw [q11]; decide) (by rw [q11]; decide) (by rw [q11] <;> rfl) (by decide) (lw_case_11 S hs11 M hI i hi6 next)
      by_cases q12 : x = 12
      · exact lw_tabIn 33 S 544 dL_law_33 (by rw [q12]; decide) (by rw [q12]; decide) (by rw [q12] <;> rfl) (by decide) (lw_case_12 S hs12 M hI i hi6 next)
      by_cases q13 : x = 13
      · exact lw_tabIn 33 S 567 dL_law_33 (by rw [q13]; decide) (by rw [q13]; decide) (by rw [q13] <;> rfl) (by decide) (lw_case_13 S hs13 M hI i hi6 next)
      by_cases q14 : x = 14
      · exact lw_tabIn 33 S 630 dL_law_33 (by rw [q14]; decide) (by rw [q14]; decide) (by rw [q14] <;> rfl) (by decide) (lw_case_14 S hs14 M hI i hi6 next)
      by_cases q15 : x = 15
      · exact lw_tabIn 33 S 663 dL_law_33 (by rw [q15]; decide) (by rw [q15]; decide) (by rw [q15] <;> rfl) (by decide) (lw_case_15 S hs15 M hI i hi6 next)
      by_cases q16 : x = 16
      · exact lw_tabIn 33 S 726 dL_law_33 (by rw [q16]; decide) (by rw [q16]; decide) (by rw [q16] <;> rfl) (by decide) (lw_case_16 S hs16 M hI i hi6 next)
      by_cases q17 : x = 17
      · exact lw_tabIn 33 S 779 dL_law_33 (by rw [q17]; decide) (by rw [q17]; decide) (by rw [q17] <;> rfl) (by decide) (lw_case_17 S hs17 M hI i hi6 next)
      by_cases q18 : x = 18
      · exact lw_tabIn 33 S 812 dL_law_33 (by rw [q18]; decide) (by rw [q18]; decide) (by rw [q18] <;> rfl) (by decide) (lw_case_18 S hs18 M hI i hi6 next)
      by_cases q19 : x = 19
      · exact lw_tabIn 33 S 855 dL_law_33 (by rw [q19]; decide) (by rw [q19]; decide) (by rw [q19] <;> rfl) (by decide) (lw_case_19 S hs19 M hI i hi6 next)
      by_cases q20 : x = 20
      · exact lw_tabIn 33 S 878 dL_law_33 (by rw [q20]; decide) (by rw [q20]; decide) (by rw [q20] <;> rfl) (by decide) (lw_case_20 S hs20 M hI i hi6 next)
      by_cases q21 : x = 21
      · exact lw_tabIn 33 S 901 dL_law_33 (by rw [q21]; decide) (by rw [q21]; decide) (by rw [q21] <;> rfl) (by decide) (lw_case_21 S hs21 M hI i hi6 next)
      by_cases q22 : x = 22
      · exact lw_tabIn 33 S 924 dL_law_33 (by rw [q22]; decide) (by rw [q22]; decide) (by rw [q22] <;> rfl) (by decide) (lw_case_22 S hs22 M hI i hi6 next)
      by_cases q23 : x = 23
      · exact lw_tabIn 33 S 947 dL_law_33 (by rw [q23]; decide) (by rw [q23]; decide) (by rw [q23] <;> rfl) (by decide) (lw_case_23 S hs23 M hI i hi6 next)
      by_cases q24 : x = 24
      · exact lw_tabIn 33 S 981 dL_law_33 (by rw [q24]; decide) (by rw [q24]; decide) (by rw [q24] <;> rfl) (by decide) (lw_case_24 S hs24 M hI i hi6 next)
      by_cases q25 : x = 25
      · exact lw_tabIn 33 S 1024 dL_law_33 (by rw [q25]; decide) (by rw [q25]; decide) (by rw [q25] <;> rfl) (by decide) (lw_case_25 S hs25 M hI i hi6 next)
      by_cases q26 : x = 26
      · exact lw_tabIn 33 S 1047 dL_law_33 (by rw [q26]; decide) (by rw [q26]; decide) (by rw [q26] <;> rfl) (by decide) (lw_case_26 S hs26 M hI i hi6 next)
      by_cases q27 : x = 27
      · exact lw_tabIn 33 S 1090 dL_law_33 (by rw [q27]; decide) (by rw [q27]; decide) (by rw [q27] <;> rfl) (by decide) (lw_case_27 S hs27 M hI i hi6 next)
      by_cases q28 : x = 28
      · exact lw_tabIn 33 S 1134 dL_law_33 (by rw [q28]; decide) (by rw [q28]; decide) (by rw [q28] <;> rfl) (by decide) (lw_case_28 S hs28 M hI i hi6 next)
      by_cases q29 : x = 29
      · exact lw_tabIn 33 S 1197 dL_law_33 (by rw [q29]; decide) (by rw [q29]; decide) (by rw [q29] <;> rfl) (by decide) (lw_case_29 S hs29 M hI i hi6 next)
      by_cases q30 : x = 30
      · exact lw_tabIn 33 S 1220 dL_law_33 (by rw [q30]; decide) (by rw [q30]; decide) (by rw [q30] <;> rfl) (by decide) (lw_case_30 S hs30 M hI i hi6 next)
      by_cases q31 : x = 31
      · exact lw_tabIn 33 S 1243 dL_law_33 (by rw [q31]; decide) (by rw [q31]; decide) (by rw [q31] <;> rfl) (by decide) (lw_case_31 S hs31 M hI i hi6 next)
      by_cases q32 : x = 32
      · exact lw_tabIn 33 S 1276 dL_law_33 (by rw [q32]; decide) (by rw [q32]; decide) (by rw [q32] <;> rfl) (by decide) (lw_case_32 S hs32 M hI i hi6 next)
      by_cases q33 : x = 33
      · exact lw_tabIn 33 S 1289 dL_law_33 (by rw [q33]; decide) (by rw [q33]; decide) (by rw [q33] <;> rfl) (by decide) (lw_case_33 S hs33 M hI i hi6 next)
      by_cases q34 : x = 34
      · exact lw_tabIn 33 S 1302 dL_law_33 (by rw [q34]; decide) (by rw [q34]; decide) (by rw [q34] <;> rfl) (by decide) (lw_case_34 S hs34 M hI i hi6 next)
      have q0 : ¬ x.toInt = 0 := lv_neT q0 rfl
      have q1 : ¬ x.toInt = 1 := lv_neT q1 rfl
      have q2 : ¬ x.toInt = 2 := lv_neT q2 rfl
      have q3 : ¬ x.toInt = 3 := lv_neT q3 rfl
      have q4 : ¬ x.toInt = 4 := lv_neT q4 rfl
      have q5 : ¬ x.toInt = 5 := lv_neT q5 rfl
      have q6 : ¬ x.toInt = 6 := lv_neT q6 rfl
      have q7 : ¬ x.toInt = 7 := lv_neT q7 rfl
      have q8 : ¬ x.toInt = 8 := lv_neT q8 rfl
      have q9 : ¬ x.toInt = 9 := lv_neT q9 rfl
      have q10 : ¬ x.toInt = 10 := lv_neT q10 rfl
      have q11 : ¬ x.toInt = 11 := lv_neT q11 rfl
      have q12 : ¬ x.toInt = 12 := lv_neT q12 rfl
      have q13 : ¬ x.toInt = 13 := lv_neT q13 rfl
      have q14 : ¬ x.toInt = 14 := lv_neT q14 rfl
      have q15 : ¬ x.toInt = 15 := lv_neT q15 rfl
      have q16 : ¬ x.toInt = 16 := lv_neT q16 rfl
      have q17 : ¬ x.toInt = 17 := lv_neT q17 rfl
      have q18 : ¬ x.toInt = 18 := lv_neT q18 rfl
      have q19 : ¬ x.toInt = 19 := lv_neT q19 rfl
      have q20 : ¬ x.toInt = 20 := lv_neT q20 rfl
      have q21 : ¬ x.toInt = 21 := lv_neT q21 rfl
      have q22 : ¬ x.toInt = 22 := lv_neT q22 rfl
      have q23 : ¬ x.toInt = 23 := lv_neT q23 rfl
      have q24 : ¬ x.toInt = 24 := lv_neT q24 rfl
      have q25 : ¬ x.toInt = 25 := lv_neT q25 rfl
      have q26 : ¬ x.toInt = 26 := lv_neT q26 rfl
      have q27 : ¬ x.toInt = 27 := lv_neT q27 rfl
      have q28 : ¬ x.toInt = 28 := lv_neT q28 rfl
      have q29 : ¬ x.toInt = 29 := lv_neT q29 rfl
      have q30 : ¬ x.toInt = 30 := lv_neT q30 rfl
      have q31 : ¬ x.toInt = 31 := lv_neT q31 rfl
      have q32 : ¬ x.toInt = 32 := lv_neT q32 rfl
      have q33 : ¬ x.toInt = 33 := lv_neT q33 rfl
      have q34 : ¬ x.toInt = 34 := lv_neT q34 rfl
      exact lw_tabOut 33 S 1325 dL_law_33 (by omega) (by decide) (next M hI)
