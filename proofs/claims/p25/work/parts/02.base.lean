/-! base: the walk's words in one form: an int row, a row of rows, one contract's form, its call, its return -/
abbrev zi (k : ClassId) (n : Nat) (f : Nat → Int32) : va_E := .inl (k, n, .inl f)
abbrev zr (k : ClassId) (n : Nat) (r : Nat → Nat) : va_E := .inl (k, n, .inr (.inr (.inr (.inr (fun i => if i < n then some (r i) else none)))))
abbrev zty (kI kA kC : ClassId) : List (ClassId × FieldType) := [(kI, .int), (kA, .array .int), (kC, .object "CakeMarks$Cake")]
theorem z_lt {i : Int32} {n : Nat} (h : vp_in i n) : i.toNatClampNeg < n := Nat.not_le.mp fun q => h (Or.inr q)
def zPre (dC : Nat → ClassId) (dI : Nat → Nat → Nat) (kI kA kC : ClassId) (sz : Nat) (W0 : va_W) : State → Prop := fun U => U.heap.size = sz ∧ va_P (dC, dI) vwCl W0 U.heap ∧ va_K (dC, dI) vwCl (zty kI kA kC) U ∧ va_D (fun _ => True) W0
def zEnd (dC : Nat → ClassId) (dI : Nat → Nat → Nat) {S : Type} (W1 : S → va_W) (A : Nat → Prop) : S → State → Prop := fun u t => va_P (dC, dI) vwCl (W1 u) t.heap ∧ va_D A (W1 u)
/-- a contract of a method that answers an int (or a boolean) -/
def zI (l : Launch) (y : MethodName) (ws : List Cond) (rm : Room) (dC : Nat → ClassId) (dI : Nat → Nat → Nat) (kI kA kC : ClassId) (sz mc ms : Nat) (args : List Value) (W0 : va_W) {S : Type} (post : Int32 → S → Prop) (W1 : S → va_W) : Prop :=
  Met l y ws rm (va_Pc args (zPre dC dI kI kA kC sz W0)) (va_Qi post (zEnd dC dI W1 (va_A W0 sz)) (va_A W0 sz)) mc ms (va_A W0 sz)
/-- of one that answers nothing -/
def zV (l : Launch) (y : MethodName) (ws : List Cond) (rm : Room) (dC : Nat → ClassId) (dI : Nat → Nat → Nat) (kI kA kC : ClassId) (sz mc ms : Nat) (args : List Value) (W0 : va_W) {S : Type} (post : S → Prop) (W1 : S → va_W) : Prop :=
  Met l y ws rm (va_Pc args (zPre dC dI kI kA kC sz W0)) (va_Qv post (zEnd dC dI W1 (va_A W0 sz)) (va_A W0 sz)) mc ms (va_A W0 sz)
/-- what a walk has at its start -/
def zCtx (p : Program) (s : State) (m : MethodId) (args : Array Value) (meth : Method) (c : Code) (dC : Nat → ClassId) (dI : Nat → Nat → Nat) (kI kA kC : ClassId) (W0 : va_W) (y : MethodName) (cc : ByteArray) (maxL : Nat) (ret : Option FieldType) (ws : List Cond) (A : Nat → Prop) : Prop :=
  p.tables.exec = Jvm.exec ∧ c.code = cc ∧ meth.sig.returnType = ret ∧ c.maxLocals = maxL ∧ (∀ w ∈ ws, w.before args s = true) ∧ s.vm.findClass y.cls = some m.cls ∧ meth.name = y.name ∧ va_P (dC, dI) vwCl W0 s.heap ∧ va_K (dC, dI) vwCl (zty kI kA kC) s ∧ va_D A W0 ∧ (∀ q : Nat, s.heap.size ≤ q → A q) ∧ va_S A s.heap s.heap []
/-- an int's end: with the post, the world and the frame -/
def zRetI (p : Program) (l : Launch) (e : Env) (rm : Room) (s : State) (m : MethodId) (args : Array Value) (below : List Frame) (meth : Method) (c : Code) (dC : Nat → ClassId) (dI : Nat → Nat → Nat) (mc ms : Nat) (cc : ByteArray) (A : Nat → Prop) {S : Type} (post : Int32 → S → Prop) (W1 : S → va_W) (Q : State → Prop) (bool : Bool) : Prop :=
  ∀ (pc : Nat) (v : Int32) (u : S) (H : Heap) (locs : List Loc) (ls : Array Slot), (bool = true → narrow .boolean (.int v) = .int v) → post v u → va_P (dC, dI) vwCl (W1 u) H → va_D A (W1 u) → va_S A s.heap H locs → decode cc pc = .ok (.ireturn, 1) → W p l e rm s m args below meth c H locs mc ms Q (F0 m pc ls [.int v])
def zRetV (p : Program) (l : Launch) (e : Env) (rm : Room) (s : State) (m : MethodId) (args : Array Value) (below : List Frame) (meth : Method) (c : Code) (dC : Nat → ClassId) (dI : Nat → Nat → Nat) (mc ms : Nat) (cc : ByteArray) (A : Nat → Prop) {S : Type} (post : S → Prop) (W1 : S → va_W) (Q : State → Prop) : Prop :=
  ∀ (pc : Nat) (u : S) (H : Heap) (locs : List Loc) (ls : Array Slot), post u → va_P (dC, dI) vwCl (W1 u) H → va_D A (W1 u) → va_S A s.heap H locs → decode cc pc = .ok (.return_, 1) → W p l e rm s m args below meth c H locs mc ms Q (F0 m pc ls [])
set_option maxHeartbeats 4000000 in
theorem zI.of {l : Launch} {y : MethodName} {ws ws' : List Cond} {rm : Room} {dC : Nat → ClassId} {dI : Nat → Nat → Nat} {kI kA kC : ClassId} {sz mc ms : Nat} {As : List Value} {W0 : va_W} {S : Type} {post : Int32 → S → Prop} {W1 : S → va_W} {cc : ByteArray} {maxL : Nat} {ty : FieldType} (hy : plainName y.cls = true) (hw : ws = Cond.code y cc maxL (some ty) :: ws') (hlen : (lg_sl As).length ≤ maxL) (hty : ty = .int ∨ ty = .boolean)
    (body : ∀ (p : Program) (e : Env) (s : State) (m : MethodId) (args : Array Value) (below : List Frame) (meth : Method) (c : Code) (A : Nat → Prop) (Q : State → Prop), zCtx p s m args meth c dC dI kI kA kC W0 y cc maxL (some ty) ws A → zRetI p l e rm s m args below meth c dC dI mc ms cc A post W1 Q (decide (ty = .boolean)) → ∀ (ls : Array Slot), lv_has ls maxL (lv_args 0 As) → W p l e rm s m args below meth c s.heap [] 0 0 Q (F0 m 0 ls [])) :
    zI l y ws rm dC dI kI kA kC sz mc ms As W0 post W1 := by
  refine Met.ofW (cc := cc) (maxL := maxL) (ret := some ty) hy hw ?_
  intro p e s m args below meth c s₁ B hml hv
  obtain ⟨rfl, hsz, hP, hK, hD0⟩ := hv
  have hx := B.exec
  have hb := B.bytes
  have hr := B.returns
  have hts := atoms_spec (ws := ws) B.pre
  have hown := findClass_of_methodNamed B.named
  have hlocks := B.notSynchronized
  have hin := (name_of_methodNamed B.named B.method).1
  subst hsz
  have hD := hD0.self (sz := s.heap.size)
  have hA : ∀ q : Nat, s.heap.size ≤ q → va_A W0 s.heap.size q := fun q h => Or.inr h
  have hl := lv_entry As (n := maxL) hlen
  rw [lg_entry_eq]
  generalize (lg_sl As ++ List.replicate (maxL - (lg_sl As).length) Slot.unset).toArray = ls at hl ⊢
  refine body p e s m _ below meth c (va_A W0 s.heap.size) _ ⟨hx, hb, hr, hml, hts, hown, hin, hP, hK, hD, hA, va_S.rf⟩ ?_ ls hl
  intro pc v u H locs ls' hn hp hP1 hD1 hS hdg
  have hq : ∀ t : State, t.heap = H → s.WarmedH t.vm → va_Qi post (zEnd dC dI W1 (va_A W0 s.heap.size)) (va_A W0 s.heap.size) As.toArray s (.returned (some (.int v))) t := fun t ht _ => ⟨⟨v, u, rfl, hp, by rw [ht]; exact hP1, hD1⟩, hS.F ht⟩
  rcases hty with rfl | rfl
  · exact W.iret (v := v) hx hb hr hq hS.2.2 hdg
  · exact W.zret (v := v) (ty := .boolean) hx hb hr (hn rfl) hq hS.2.2 hdg
set_option maxHeartbeats 4000000 in
theorem zV.of {l : Launch} {y : MethodName} {ws ws' : List Cond} {rm : Room} {dC : Nat → ClassId} {dI : Nat → Nat → Nat} {kI kA kC : ClassId} {sz mc ms : Nat} {As : List Value} {W0 : va_W} {S : Type} {post : S → Prop} {W1 : S → va_W} {cc : ByteArray} {maxL : Nat} (hy : plainName y.cls = true) (hw : ws = Cond.code y cc maxL none :: ws') (hlen : (lg_sl As).length ≤ maxL)
    (body : ∀ (p : Program) (e : Env) (s : State) (m : MethodId) (args : Array Value) (below : List Frame) (meth : Method) (c : Code) (A : Nat → Prop) (Q : State → Prop), zCtx p s m args meth c dC dI kI kA kC W0 y cc maxL none ws A → zRetV p l e rm s m args below meth c dC dI mc ms cc A post W1 Q → ∀ (ls : Array Slot), lv_has ls maxL (lv_args 0 As) → W p l e rm s m args below meth c s.heap [] 0 0 Q (F0 m 0 ls [])) :
    zV l y ws rm dC dI kI kA kC sz mc ms As W0 post W1 := by
  refine Met.ofW (cc := cc) (maxL := maxL) (ret := none) hy hw ?_
  intro p e s m args below meth c s₁ B hml hv
  obtain ⟨rfl, hsz, hP, hK, hD0⟩ := hv
  have hx := B.exec
  have hb := B.bytes
  have hr := B.returns
  have hts := atoms_spec (ws := ws) B.pre
  have hown := findClass_of_methodNamed B.named
  have hlocks := B.notSynchronized
  have hin := (name_of_methodNamed B.named B.method).1
  subst hsz
  have hD := hD0.self (sz := s.heap.size)
  have hA : ∀ q : Nat, s.heap.size ≤ q → va_A W0 s.heap.size q := fun q h => Or.inr h
  have hl := lv_entry As (n := maxL) hlen
  rw [lg_entry_eq]
  generalize (lg_sl As ++ List.replicate (maxL - (lg_sl As).length) Slot.unset).toArray = ls at hl ⊢
  refine body p e s m _ below meth c (va_A W0 s.heap.size) _ ⟨hx, hb, hr, hml, hts, hown, hin, hP, hK, hD, hA, va_S.rf⟩ ?_ ls hl
  intro pc u H locs ls' hp hP1 hD1 hS hdg
  exact W.vret hx hb hr (fun t ht _ => ⟨⟨u, rfl, hp, by rw [ht]; exact hP1, hD1⟩, hS.F ht⟩) hS.2.2 hdg
section ZCALL
variable {p : Program} {l : Launch} {e : Env} {R : Room} {s : State} {m : MethodId} {args : Array Value} {below : List Frame} {meth : Method} {c : Code} {H : Heap} {locs : List Loc} {cells slots : Nat} {Q : State → Prop}
variable {cc bytes : ByteArray} {pc nL maxL index n ci q0 mc ms : Nat} {ls : Array Slot} {rest As st : List Value} {dC : Nat → ClassId} {dI : Nat → Nat → Nat} {kI kA kC : ClassId} {A : Nat → Prop} {ws wc wr : va_W} {H0 : Heap} {Ts wsy : List Cond} {own C : String} {y : MethodName} {ret : Option FieldType} {rm : Room} {b : Nat} {fs : List Value} {S : Type} {W1 Wn : S → va_W}
theorem z_blind (sz : Nat) (W0 : va_W) (As : List Value) : FrameBlind (va_Pc As (zPre dC dI kI kA kC sz W0)) := fun a U g mk q => by
  obtain ⟨q0, q1, qP, qK, qD⟩ := q
  exact ⟨q0, q1, qP, va_K.moved (u := U) (U := U.calling g mk a) (Vm.Alike.refl U.vm) qK, qD⟩
theorem z_after {H1 : Heap} {u : S} (hP : va_P (dC, dI) vwCl ws H) (hD : va_D A ws) (hFc : ∀ q, va_A wc H.size q → A q) (isC isR isN : List Nat) (hC : isC.map (fun i => ws[i]?) = wc.map some) (hR : isR.map (fun i => ws[i]?) = wr.map some) (hnR : va_nd isR = true) (hdis : ∀ i ∈ isR, i ∉ isC) (hN : isN.map (fun i => (wr ++ W1 u)[i]?) = (Wn u).map some) (hnN : va_nd isN = true)
    (hk1 : ∀ q : Nat, q < H.size → ¬ va_A wc H.size q → H1[q]? = H[q]?) (hP1 : va_P (dC, dI) vwCl (W1 u) H1) (hD1 : va_D (va_A wc H.size) (W1 u)) : va_P (dC, dI) vwCl (Wn u) H1 ∧ va_D A (Wn u) := by
  obtain ⟨hPj, hDj⟩ := va_join (wr := wr) (w1 := W1 u) hP hD isC isR hC hR hnR hdis hk1 hFc hP1 hD1
  refine ⟨?_, hDj.sub isN hnN hN⟩
  intro k q hk
  have h1 : (isN.map (fun i => (wr ++ W1 u)[i]?))[k]? = some (some q) := by rw [hN, List.getElem?_map, hk]; rfl
  rw [List.getElem?_map] at h1
  cases hi : isN[k]? with
  | none => rw [hi] at h1; cases h1
  | some i => rw [hi] at h1; exact hPj i q (Option.some.inj h1)
theorem z_cut (hP : va_P (dC, dI) vwCl ws H) (isC : List Nat) (hC : isC.map (fun i => ws[i]?) = wc.map some) : va_P (dC, dI) vwCl wc H := by
  intro k q hk
  have h1 : (isC.map (fun i => ws[i]?))[k]? = some (some q) := by rw [hC, List.getElem?_map, hk]; rfl
  rw [List.getElem?_map] at h1
  cases hi : isC[k]? with
  | none => rw [hi] at h1; cases h1
  | some i => rw [hi] at h1; exact hP i q (Option.some.inj h1)
/-- a call of a method of an object, that answers an int -/
theorem zcallI {post : Int32 → S → Prop} (X : CallFix p m c cc nL s args Ts own) (hM : zI l y wsy rm dC dI kI kA kC H.size 0 0 (.ref b :: As) wc post W1) (cw : CallW R s args own C index y bytes maxL ret wsy rm 0 0 n)
    (hK : va_K (dC, dI) vwCl (zty kI kA kC) s) (hP : va_P (dC, dI) vwCl ws H) (hD : va_D A ws) (hS : va_S A H0 H locs) (hA : ∀ q, H0.size ≤ q → A q)
    (isC isR isN : List Nat) (hC : isC.map (fun i => ws[i]?) = wc.map some) (hR : isR.map (fun i => ws[i]?) = wr.map some) (hnC : va_nd isC = true) (hnR : va_nd isR = true) (hdis : ∀ i ∈ isR, i ∉ isC) (hN : ∀ u, isN.map (fun i => (wr ++ W1 u)[i]?) = (Wn u).map some) (hnN : va_nd isN = true)
    {qc : vw_C} (hc : vwCl[ci]? = some qc) (hqc : qc.1 = C) (he : wc[q0]? = some (b, .inr (ci, fs))) (hn : As.length = n) (hsize : ls.size = nL) (hst : st = As.reverse ++ .ref b :: rest) (hW : (rest.map fun v => v.category).sum ≤ 8) (hdg : decode cc pc = .ok (.invokevirtual index, 3)) (hf : cells ≤ R.cells ∧ slots ≤ R.slots)
    (kk : ∀ (r : Int32) (u : S) (H1 : Heap) (locs1 : List Loc), post r u → va_P (dC, dI) vwCl (Wn u) H1 → va_D A (Wn u) → va_S A H0 H1 locs1 → W p l e R s m args below meth c H1 locs1 cells slots Q (F0 m (pc + 3) ls (.int r :: rest))) :
    W p l e R s m args below meth c H locs cells slots Q (F0 m pc ls st) := by
  subst hqc
  have hPc := z_cut hP isC hC
  have hDc := hD.sub isC hnC hC
  have hFc := va_free (wc := wc) hD hS hA isC hC
  refine va_calli (va_runV (As := As) (rest := rest) X hM cw ⟨z_blind _ _ _, va_recv hK hPc hc he, fun U hU hW => ⟨rfl, by rw [hU], by rw [hU]; exact hPc, va_K.moved hW.alike hK, hDc.weaken (fun _ _ _ _ => trivial)⟩⟩ rfl hn hsize hst (lv_room hW) hdg hf) hS (fun q _ h => hFc q h) hFc (fun r u t H1 locs1 ht hvm hw hB hz1 hk1 hS => ?_)
  obtain ⟨hP1, hD1⟩ := hB
  rw [ht] at hP1
  obtain ⟨hPn, hDn⟩ := z_after (Wn := Wn) hP hD hFc isC isR isN hC hR hnR hdis (hN u) hnN hk1 hP1 hD1
  exact kk r u H1 locs1 hw hPn hDn hS
/-- one that answers nothing -/
theorem zcallV {post : S → Prop} (X : CallFix p m c cc nL s args Ts own) (hM : zV l y wsy rm dC dI kI kA kC H.size 0 0 (.ref b :: As) wc post W1) (cw : CallW R s args own C index y bytes maxL ret wsy rm 0 0 n)
    (hK : va_K (dC, dI) vwCl (zty kI kA kC) s) (hP : va_P (dC, dI) vwCl ws H) (hD : va_D A ws) (hS : va_S A H0 H locs) (hA : ∀ q, H0.size ≤ q → A q)
    (isC isR isN : List Nat) (hC : isC.map (fun i => ws[i]?) = wc.map some) (hR : isR.map (fun i => ws[i]?) = wr.map some) (hnC : va_nd isC = true) (hnR : va_nd isR = true) (hdis : ∀ i ∈ isR, i ∉ isC) (hN : ∀ u, isN.map (fun i => (wr ++ W1 u)[i]?) = (Wn u).map some) (hnN : va_nd isN = true)
    {qc : vw_C} (hc : vwCl[ci]? = some qc) (hqc : qc.1 = C) (he : wc[q0]? = some (b, .inr (ci, fs))) (hn : As.length = n) (hsize : ls.size = nL) (hst : st = As.reverse ++ .ref b :: rest) (hW : (rest.map fun v => v.category).sum ≤ 8) (hdg : decode cc pc = .ok (.invokevirtual index, 3)) (hf : cells ≤ R.cells ∧ slots ≤ R.slots)
    (kk : ∀ (u : S) (H1 : Heap) (locs1 : List Loc), post u → va_P (dC, dI) vwCl (Wn u) H1 → va_D A (Wn u) → va_S A H0 H1 locs1 → W p l e R s m args below meth c H1 locs1 cells slots Q (F0 m (pc + 3) ls rest)) :
    W p l e R s m args below meth c H locs cells slots Q (F0 m pc ls st) := by
  subst hqc
  have hPc := z_cut hP isC hC
  have hDc := hD.sub isC hnC hC
  have hFc := va_free (wc := wc) hD hS hA isC hC
  refine va_callv (va_runV (As := As) (rest := rest) X hM cw ⟨z_blind _ _ _, va_recv hK hPc hc he, fun U hU hW => ⟨rfl, by rw [hU], by rw [hU]; exact hPc, va_K.moved hW.alike hK, hDc.weaken (fun _ _ _ _ => trivial)⟩⟩ rfl hn hsize hst (lv_room hW) hdg hf) hS (fun q _ h => hFc q h) hFc (fun u t H1 locs1 ht hvm hw hB hz1 hk1 hS => ?_)
  obtain ⟨hP1, hD1⟩ := hB
  rw [ht] at hP1
  obtain ⟨hPn, hDn⟩ := z_after (Wn := Wn) hP hD hFc isC isR isN hC hR hnR hdis (hN u) hnN hk1 hP1 hD1
  exact kk u H1 locs1 hw hPn hDn hS
/-- a static one that answers an int -/
theorem zcallS {post : Int32 → S → Prop} (X : CallFix p m c cc nL s args Ts own) (hM : zI l y wsy rm dC dI kI kA kC H.size 0 0 As wc post W1) (cw : CallB R s args own index y bytes maxL ret wsy rm 0 0 n ∧ (Cond.static y).before args s = true)
    (hK : va_K (dC, dI) vwCl (zty kI kA kC) s) (hP : va_P (dC, dI) vwCl ws H) (hD : va_D A ws) (hS : va_S A H0 H locs) (hA : ∀ q, H0.size ≤ q → A q)
    (isC isR isN : List Nat) (hC : isC.map (fun i => ws[i]?) = wc.map some) (hR : isR.map (fun i => ws[i]?) = wr.map some) (hnC : va_nd isC = true) (hnR : va_nd isR = true) (hdis : ∀ i ∈ isR, i ∉ isC) (hN : ∀ u, isN.map (fun i => (wr ++ W1 u)[i]?) = (Wn u).map some) (hnN : va_nd isN = true)
    (hn : As.length = n) (hsize : ls.size = nL) (hst : st = As.reverse ++ rest) (hW : (rest.map fun v => v.category).sum ≤ 8) (hdg : decode cc pc = .ok (.invokestatic index, 3)) (hf : cells ≤ R.cells ∧ slots ≤ R.slots)
    (kk : ∀ (r : Int32) (u : S) (H1 : Heap) (locs1 : List Loc), post r u → va_P (dC, dI) vwCl (Wn u) H1 → va_D A (Wn u) → va_S A H0 H1 locs1 → W p l e R s m args below meth c H1 locs1 cells slots Q (F0 m (pc + 3) ls (.int r :: rest))) :
    W p l e R s m args below meth c H locs cells slots Q (F0 m pc ls st) := by
  have hPc := z_cut hP isC hC
  have hDc := hD.sub isC hnC hC
  have hFc := va_free (wc := wc) hD hS hA isC hC
  refine va_calli (va_runS (As := As) (rest := rest) X hM cw ⟨z_blind _ _ _, fun U hU hW => ⟨rfl, by rw [hU], by rw [hU]; exact hPc, va_K.moved hW.alike hK, hDc.weaken (fun _ _ _ _ => trivial)⟩⟩ rfl hn hsize hst (lv_room hW) hdg hf) hS (fun q _ h => hFc q h) hFc (fun r u t H1 locs1 ht hvm hw hB hz1 hk1 hS => ?_)
  obtain ⟨hP1, hD1⟩ := hB
  rw [ht] at hP1
  obtain ⟨hPn, hDn⟩ := z_after (Wn := Wn) hP hD hFc isC isR isN hC hR hnR hdis (hN u) hnN hk1 hP1 hD1
  exact kk r u H1 locs1 hw hPn hDn hS
/-- a row out of a row of rows -/
theorem zald {D : va_G} {cl : List vw_C} {tys : List (ClassId × FieldType)} {a : Nat} (hexec : p.tables.exec = Jvm.exec) (hb : c.code = cc) (hK : va_K D cl tys s) (hP : va_P D cl ws H) (q0 t0 : Nat) {cA : ClassId} {n : Nat} {r : Nat → Nat} {ty : FieldType} (ha : ws[q0]? = some (a, zr cA n r)) (ht : tys[t0]? = some (cA, ty)) (hty : ty.isReference = true) {i : Int32} {j : Nat} (hin : vp_in i n) (hij : i.toNatClampNeg = j) (hdg : decode cc pc = .ok (.aaload, 1))
    (kk : W p l e R s m args below meth c H locs cells slots Q (F0 m (pc + 1) ls (.ref (r j) :: rest))) : W p l e R s m args below meth c H locs cells slots Q (F0 m pc ls (.int i :: .ref a :: rest)) := by
  subst hij
  have hlt : i.toNatClampNeg < n := Nat.not_le.mp fun q => hin (Or.inr q)
  refine W.aald (v := .ref (r i.toNatClampNeg)) (ty := ty) hexec hb (hP q0 _ ha) ((hK.2 t0 _ ht).1 n (fun j => va_rf (if j < n then some (r j) else none))) hty (fun q => by cases q) (by show ¬ (i < 0 ∨ (arrV _ _ _).slots.size ≤ _); rw [arrV_size]; exact hin) (by
    show (arrV _ _ _).slots[_]? = _
    rw [arrV_read _ _ hlt]; show some (va_rf (if i.toNatClampNeg < n then some (r i.toNatClampNeg) else none)) = _; rw [if_pos hlt]
    rfl) rfl rfl hdg kk
/-- a copy of a row of 24 -/
theorem zcopy {D : va_G} {cl : List vw_C} {tys : List (ClassId × FieldType)} (hexec : p.tables.exec = Jvm.exec) (hb : c.code = cc) (hml : c.maxLocals = ls.size) {own : String} {index : Nat} (hown : s.vm.findClass own = some m.cls) (hlink : (Cond.methodLink own index arraycopyName).before args s = true) (hnat : (Cond.native arraycopyName).before args s = true) (hstat : (Cond.static arraycopyName).before args s = true) (hini : (Cond.initialized "java/lang/System").before args s = true)
    (hK : va_K D cl ((kI, .int) :: tys) s) (hP : va_P D cl ws H) (hD : va_D A ws) (hS : va_S A H0 H locs) (q0 q1 : Nat) {a a0 : Nat} {f g : Nat → Int32} (ha0 : ws[q0]? = some (a0, zi kI 24 f)) (ha1 : ws[q1]? = some (a, zi kI 24 g)) (hframes : 1 ≤ R.frames) (hlocals : (rest.map fun v => v.category).sum + 18 ≤ R.locals) (hdg : decode cc pc = .ok (.invokestatic index, 3))
    (kk : ∀ (H1 : Heap) (locs1 : List Loc), va_P D cl (ws.set q1 (a, zi kI 24 (va_cpy f g 0 0 24))) H1 → va_D A (ws.set q1 (a, zi kI 24 (va_cpy f g 0 0 24))) → va_S A H0 H1 locs1 → W p l e R s m args below meth c H1 locs1 cells slots Q (F0 m (pc + 3) ls rest)) : W p l e R s m args below meth c H locs cells slots Q (F0 m pc ls (.int 24 :: .int 0 :: .ref a :: .int 0 :: .ref a0 :: rest)) := by
  have e24 : (24 : Int32).toNatClampNeg = 24 := by decide
  have e0 : (0 : Int32).toNatClampNeg = 0 := by decide
  refine va_copyi hexec hb hml hown hlink hnat hstat hini hK hP hD hS q0 q1 0 0 ha0 ha1 rfl rfl rfl (by decide) (by decide) (by decide) (by decide) (by decide) (fun i _ => rfl) hframes (by
    have : nativeFrameWords "java/lang/System" "arraycopy" 5 = 7 := by decide
    rw [this]; exact hlocals) hdg (fun H1 locs1 h1 h2 h3 => ?_)
  rw [e24, e0] at h1 h2
  exact kk H1 locs1 h1 h2 h3
end ZCALL
theorem z_sw (n : Nat) (x : Int32) : (x.toInt < 0 ∨ (n : Int) < x.toInt) ∨ ∃ k : Nat, k ≤ n ∧ x = nI k := by
  by_cases h : x.toInt < 0 ∨ (n : Int) < x.toInt
  · exact Or.inl h
  · right
    have h0 : ¬ x < 0 := by
      intro q
      have q2 : x.toInt < (0 : Int32).toInt := Int32.lt_iff_toInt_lt.mp q
      have e : (0 : Int32).toInt = 0 := by decide
      rw [e] at q2
      omega
    obtain ⟨j, hj, rfl⟩ := nI_of h0
    rw [nI_toInt hj] at h
    exact ⟨j, by omega, rfl⟩
abbrev kCake (kI kA : ClassId) (o a v : Nat) (r : Nat → Nat) (g : Int32) (w : Nat → Int32) (V : Nat → Nat → Int32) : va_W := [(o, .inr (0, [.int g, .ref a, .ref v])), (a, zi kI 24 w), (v, zr kA 4 r), (r 0, zi kI 24 (V 0)), (r 1, zi kI 24 (V 1)), (r 2, zi kI 24 (V 2)), (r 3, zi kI 24 (V 3))]
abbrev kArr (kI : ClassId) (o : Nat) (w : Nat → Int32) : va_W := [(o, zi kI 24 w)]
abbrev kRow (kI : ClassId) (o a : Nat) (T : Nat → Int32) (s g : Int32) : va_W := [(o, .inr (4, [.ref a, .int s, .int g])), (a, zi kI 4 T)]
abbrev kText (kI : ClassId) (o s v : Nat) (l : Int32) (S V : Nat → Int32) (t p : Int32) : va_W := [(o, .inr (5, [.int l, .ref s, .ref v, .int t, .int p])), (s, zi kI 60 S), (v, zi kI 24 V)]
abbrev kMark (kI : ClassId) (o a : Nat) (w : Nat → Int32) : va_W := [(o, .inr (2, [.ref a])), (a, zi kI 24 w)]
abbrev kRings (kI : ClassId) (o ro e : Nat) (E : Nat → Int32) : va_W := [(o, .inr (3, [.ref ro, .ref e])), (e, zi kI 4 E)]
abbrev kDiv (kI kA : ClassId) (o fs ro st to ah : Nat) (ar : Nat → Nat) (pa : Nat) (pr : Nat → Nat) (gr : Nat) (Fp Ft Fg : Int32) (FS : Nat → Int32) (Qc Qg Qk Sp : Int32) (ST TO : Nat → Int32) (AH PA : Nat → Nat → Int32) (GR : Nat → Int32) : va_W := [(o, .inr (1, [.int Fp, .int Ft, .int Fg, .ref fs, .int Qc, .int Qg, .int Qk, .int Sp, .ref ro, .ref st, .ref to, .ref ah, .ref pa, .ref gr])), (fs, zi kI 4 FS), (st, zi kI 5 ST), (to, zi kI 4 TO), (ah, zr kA 4 ar), (ar 0, zi kI 25 (AH 0)), (ar 1, zi kI 25 (AH 1)), (ar 2, zi kI 25 (AH 2)), (ar 3, zi kI 25 (AH 3)), (pa, zr kA 4 pr), (pr 0, zi kI 4 (PA 0)), (pr 1, zi kI 4 (PA 1)), (pr 2, zi kI 4 (PA 2)), (pr 3, zi kI 4 (PA 3)), (gr, zi kI 4 GR)]
abbrev kRoot (o co sh xo mo no dj : Nat) (s q : Int32) : va_W := [(o, .inr (6, [.ref co, .ref sh, .int s, .ref xo, .ref mo, .ref no, .ref dj, .int q]))]
abbrev kHist (kI kA kC : ClassId) (sh : Nat) (o a v : Nat → Nat) (r : Nat → Nat → Nat) (g : Nat → Int32) (w : Nat → Nat → Int32) (V : Nat → Nat → Nat → Int32) : va_W := (sh, zr kC 5 o) :: (kCake kI kA (o 0) (a 0) (v 0) (r 0) (g 0) (w 0) (V 0) ++ (kCake kI kA (o 1) (a 1) (v 1) (r 1) (g 1) (w 1) (V 1) ++ (kCake kI kA (o 2) (a 2) (v 2) (r 2) (g 2) (w 2) (V 2) ++ (kCake kI kA (o 3) (a 3) (v 3) (r 3) (g 3) (w 3) (V 3) ++ kCake kI kA (o 4) (a 4) (v 4) (r 4) (g 4) (w 4) (V 4)))))
abbrev kModel (kI : ClassId) (o r x t n f w b : Nat) (R : Nat → Int32) (k : Int32) (X : Nat → Int32) (l : Int32) (T : Nat → Int32) (i : Int32) (N F W B : Nat → Int32) (bw bu bd cm cw cf : Int32) : va_W := [(o, .inr (7, [.ref r, .int k, .ref x, .int l, .ref t, .int i, .ref n, .ref f, .ref w, .ref b, .int bw, .int bu, .int bd, .int cm, .int cw, .int cf])), (r, zi kI 847 R), (x, zi kI 60 X), (t, zi kI 24 T), (n, zi kI 4 N), (f, zi kI 5 F), (w, zi kI 4 W), (b, zi kI 5 B)]
