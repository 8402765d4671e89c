/-! calls of the law's own methods: over the object's world, over none; a long's answer; a cell of the script -/
def zL (l : Launch) (y : MethodName) (ws : List Cond) (rm : Room) (dC : Nat → ClassId) (dI : Nat → Nat → Nat) (kI kA kC : ClassId) (sz mc ms : Nat) (args : List Value) (W0 : va_W) {S : Type} (post : Int64 → S → Prop) (W1 : S → va_W) : Prop :=
  Met l y ws rm (va_Pc args (zPre dC dI kI kA kC sz W0)) (va_Ql post (zEnd dC dI W1 (va_A W0 sz)) (va_A W0 sz)) mc ms (va_A W0 sz)
def zRetL (p : Program) (l : Launch) (e : Env) (rm : Room) (s : State) (m : MethodId) (args : Array Value) (below : List Frame) (meth : Method) (c : Code) (dC : Nat → ClassId) (dI : Nat → Nat → Nat) (mc ms : Nat) (cc : ByteArray) (A : Nat → Prop) {S : Type} (post : Int64 → S → Prop) (W1 : S → va_W) (Q : State → Prop) : Prop :=
  ∀ (pc : Nat) (v : Int64) (u : S) (H : Heap) (locs : List Loc) (ls : Array Slot), post v u → va_P (dC, dI) vwCl (W1 u) H → va_D A (W1 u) → va_S A s.heap H locs → decode cc pc = .ok (.lreturn, 1) → W p l e rm s m args below meth c H locs mc ms Q (F0 m pc ls [.long v])
set_option maxHeartbeats 4000000 in
theorem zL.of {l : Launch} {y : MethodName} {ws ws' : List Cond} {rm : Room} {dC : Nat → ClassId} {dI : Nat → Nat → Nat} {kI kA kC : ClassId} {sz mc ms : Nat} {As : List Value} {W0 : va_W} {S : Type} {post : Int64 → S → Prop} {W1 : S → va_W} {cc : ByteArray} {maxL : Nat} (hy : plainName y.cls = true) (hw : ws = Cond.code y cc maxL (some .long) :: ws') (hlen : (lg_sl As).length ≤ maxL)
    (body : ∀ (p : Program) (e : Env) (s : State) (m : MethodId) (args : Array Value) (below : List Frame) (meth : Method) (c : Code) (A : Nat → Prop) (Q : State → Prop), zCtx p s m args meth c dC dI kI kA kC W0 y cc maxL (some .long) ws A → zRetL p l e rm s m args below meth c dC dI mc ms cc A post W1 Q → ∀ (ls : Array Slot), lv_has ls maxL (lv_args 0 As) → W p l e rm s m args below meth c s.heap [] 0 0 Q (F0 m 0 ls [])) :
    zL l y ws rm dC dI kI kA kC sz mc ms As W0 post W1 := by
  refine Met.ofW (cc := cc) (maxL := maxL) (ret := some .long) hy hw ?_
  intro p e s m args below meth c s₁ B hml hv
  obtain ⟨rfl, hsz, hP, hK, hD0⟩ := hv
  have hx := B.exec
  have hb := B.bytes
  have hr := B.returns
  have hts := atoms_spec (ws := ws) B.pre
  have hown := findClass_of_methodNamed B.named
  have hlocks := B.notSynchronized
  have hin := (name_of_methodNamed B.named B.method).1
  subst hsz
  have hD := hD0.self (sz := s.heap.size)
  have hA : ∀ q : Nat, s.heap.size ≤ q → va_A W0 s.heap.size q := fun q h => Or.inr h
  have hl := lv_entry As (n := maxL) hlen
  rw [lg_entry_eq]
  generalize (lg_sl As ++ List.replicate (maxL - (lg_sl As).length) Slot.unset).toArray = ls at hl ⊢
  refine body p e s m _ below meth c (va_A W0 s.heap.size) _ ⟨hx, hb, hr, hml, hts, hown, hin, hP, hK, hD, hA, va_S.rf⟩ ?_ ls hl
  intro pc v u H locs ls' hp hP1 hD1 hS hdg
  have hq : ∀ t : State, t.heap = H → s.WarmedH t.vm → va_Ql post (zEnd dC dI W1 (va_A W0 s.heap.size)) (va_A W0 s.heap.size) As.toArray s (.returned (some (.long v))) t := fun t ht _ => ⟨⟨v, u, rfl, hp, by rw [ht]; exact hP1, hD1⟩, hS.F ht⟩
  exact W.lret (v := v) hx hb hr hq hS.2.2 hdg
section ZLAW
variable {p : Program} {l : Launch} {e : Env} {R : Room} {s : State} {m : MethodId} {args : Array Value} {below : List Frame} {meth : Method} {c : Code} {H : Heap} {locs : List Loc} {cells slots : Nat} {Q : State → Prop}
variable {cc bytes : ByteArray} {pc nL maxL index n : Nat} {ls : Array Slot} {rest As st : List Value} {dC : Nat → ClassId} {dI : Nat → Nat → Nat} {kI kA kC : ClassId} {A : Nat → Prop} {w : va_W} {H0 : Heap} {Ts wsy : List Cond} {own : String} {y : MethodName} {ret : Option FieldType} {rm : Room} {so : Nat} {σ : Sg}
theorem z_empty (H : Heap) : va_P (dC, dI) vwCl ([] : va_W) H := fun k q hk => by cases hk
theorem z_emptyD : va_D A ([] : va_W) := ⟨fun i j p q hi => (by cases hi), fun k q hk => (by cases hk)⟩
/-- a static call over no world -/
theorem zcallS0 {post : Int32 → Unit → Prop} (X : CallFix p m c cc nL s args Ts own) (hM : zI l y wsy rm dC dI kI kA kC H.size 0 0 As ([] : va_W) post (fun _ => ([] : va_W))) (cw : CallB R s args own index y bytes maxL ret wsy rm 0 0 n ∧ (Cond.static y).before args s = true)
    (hK : va_K (dC, dI) vwCl (zty kI kA kC) s) (hP : va_P (dC, dI) vwCl w H) (hD : va_D A w) (hS : va_S A H0 H locs) (hA : ∀ q, H0.size ≤ q → A q)
    (hn : As.length = n) (hsize : ls.size = nL) (hst : st = As.reverse ++ rest) (hW : (rest.map fun v => v.category).sum ≤ 8) (hdg : decode cc pc = .ok (.invokestatic index, 3)) (hf : cells ≤ R.cells ∧ slots ≤ R.slots)
    (kk : ∀ (r : Int32) (H1 : Heap) (locs1 : List Loc), post r () → va_P (dC, dI) vwCl w H1 → va_D A w → va_S A H0 H1 locs1 → W p l e R s m args below meth c H1 locs1 cells slots Q (F0 m (pc + 3) ls (.int r :: rest))) :
    W p l e R s m args below meth c H locs cells slots Q (F0 m pc ls st) := by
  have hFc : ∀ q, va_A ([] : va_W) H.size q → A q := fun q h => by
    rcases h with ⟨k, e, h⟩ | h
    · cases h
    · exact hA q (Nat.le_trans hS.1 h)
  refine va_calli (va_runS (As := As) (rest := rest) X hM cw ⟨z_blind _ _ _, fun U hU hW => ⟨rfl, by rw [hU], z_empty _, va_K.moved hW.alike hK, z_emptyD⟩⟩ rfl hn hsize hst (lv_room hW) hdg hf) hS (fun q _ h => hFc q h) hFc (fun r u t H1 locs1 ht hvm hw hB hz1 hk1 hS => ?_)
  refine kk r H1 locs1 hw (hP.kept (fun k q hk => hk1 q.1 (hP k q hk).lt (fun h => ?_))) hD hS
  rcases h with ⟨i, e, hi⟩ | h
  · cases hi
  · exact absurd (hP k q hk).lt (Nat.not_lt.mpr h)
/-- a static call over the object's world: a look -/
theorem zcallSl {Z : Int32 → Prop} (X : CallFix p m c cc nL s args Ts own) (hM : zI l y wsy rm dC dI kI kA kC H.size 0 0 As w (fun (r : Int32) (u : va_W) => OI kI kA kC so σ u ∧ Z r) (fun (u : va_W) => u)) (cw : CallB R s args own index y bytes maxL ret wsy rm 0 0 n ∧ (Cond.static y).before args s = true)
    (hK : va_K (dC, dI) vwCl (zty kI kA kC) s) (hP : va_P (dC, dI) vwCl w H) (hD : va_D A w) (hS : va_S A H0 H locs) (hA : ∀ q, H0.size ≤ q → A q)
    (hn : As.length = n) (hsize : ls.size = nL) (hst : st = As.reverse ++ rest) (hW : (rest.map fun v => v.category).sum ≤ 8) (hdg : decode cc pc = .ok (.invokestatic index, 3)) (hf : cells ≤ R.cells ∧ slots ≤ R.slots)
    (kk : ∀ (r : Int32) (w' : va_W) (H1 : Heap) (locs1 : List Loc), Z r → OI kI kA kC so σ w' → va_P (dC, dI) vwCl w' H1 → va_D A w' → va_S A H0 H1 locs1 → W p l e R s m args below meth c H1 locs1 cells slots Q (F0 m (pc + 3) ls (.int r :: rest))) :
    W p l e R s m args below meth c H locs cells slots Q (F0 m pc ls st) := by
  have hP0 : va_P (dC, dI) vwCl (w ++ []) H := by rw [List.append_nil]; exact hP
  have hD0 : va_D A (w ++ []) := by rw [List.append_nil]; exact hD
  have hFc := z_freeP hD0 hS hA
  refine va_calli (va_runS (As := As) (rest := rest) X hM cw ⟨z_blind _ _ _, fun U hU hW => ⟨rfl, by rw [hU], by rw [hU]; exact hP, va_K.moved hW.alike hK, hD.weaken (fun _ _ _ _ => trivial)⟩⟩ rfl hn hsize hst (lv_room hW) hdg hf) hS (fun q _ h => hFc q h) hFc (fun r u t H1 locs1 ht hvm hw hB hz1 hk1 hS => ?_)
  obtain ⟨hP1, hD1⟩ := hB
  rw [ht] at hP1
  exact kk r u H1 locs1 hw.2 hw.1 hP1 (hD1.weaken (fun k q _ h => hFc q.1 h)) hS
/-- a static call over the object's world: an action -/
theorem zcallSa {Z : Int32 → Sg → Prop} (X : CallFix p m c cc nL s args Ts own) (hM : zI l y wsy rm dC dI kI kA kC H.size 0 0 As w (fun (r : Int32) (u : va_W × Sg) => OI kI kA kC so u.2 u.1 ∧ Z r u.2) (fun (u : va_W × Sg) => u.1)) (cw : CallB R s args own index y bytes maxL ret wsy rm 0 0 n ∧ (Cond.static y).before args s = true)
    (hK : va_K (dC, dI) vwCl (zty kI kA kC) s) (hP : va_P (dC, dI) vwCl w H) (hD : va_D A w) (hS : va_S A H0 H locs) (hA : ∀ q, H0.size ≤ q → A q)
    (hn : As.length = n) (hsize : ls.size = nL) (hst : st = As.reverse ++ rest) (hW : (rest.map fun v => v.category).sum ≤ 8) (hdg : decode cc pc = .ok (.invokestatic index, 3)) (hf : cells ≤ R.cells ∧ slots ≤ R.slots)
    (kk : ∀ (r : Int32) (σ' : Sg) (w' : va_W) (H1 : Heap) (locs1 : List Loc), Z r σ' → OI kI kA kC so σ' w' → va_P (dC, dI) vwCl w' H1 → va_D A w' → va_S A H0 H1 locs1 → W p l e R s m args below meth c H1 locs1 cells slots Q (F0 m (pc + 3) ls (.int r :: rest))) :
    W p l e R s m args below meth c H locs cells slots Q (F0 m pc ls st) := by
  have hP0 : va_P (dC, dI) vwCl (w ++ []) H := by rw [List.append_nil]; exact hP
  have hD0 : va_D A (w ++ []) := by rw [List.append_nil]; exact hD
  have hFc := z_freeP hD0 hS hA
  refine va_calli (va_runS (As := As) (rest := rest) X hM cw ⟨z_blind _ _ _, fun U hU hW => ⟨rfl, by rw [hU], by rw [hU]; exact hP, va_K.moved hW.alike hK, hD.weaken (fun _ _ _ _ => trivial)⟩⟩ rfl hn hsize hst (lv_room hW) hdg hf) hS (fun q _ h => hFc q h) hFc (fun r u t H1 locs1 ht hvm hw hB hz1 hk1 hS => ?_)
  obtain ⟨hP1, hD1⟩ := hB
  rw [ht] at hP1
  exact kk r u.2 u.1 H1 locs1 hw.2 hw.1 hP1 (hD1.weaken (fun k q _ h => hFc q.1 h)) hS
/-- a static call over the object's world: a look that answers a long -/
theorem zcallSj {Z : Int64 → Prop} (X : CallFix p m c cc nL s args Ts own) (hM : zL l y wsy rm dC dI kI kA kC H.size 0 0 As w (fun (r : Int64) (u : va_W) => OI kI kA kC so σ u ∧ Z r) (fun (u : va_W) => u)) (cw : CallB R s args own index y bytes maxL ret wsy rm 0 0 n ∧ (Cond.static y).before args s = true)
    (hK : va_K (dC, dI) vwCl (zty kI kA kC) s) (hP : va_P (dC, dI) vwCl w H) (hD : va_D A w) (hS : va_S A H0 H locs) (hA : ∀ q, H0.size ≤ q → A q)
    (hn : As.length = n) (hsize : ls.size = nL) (hst : st = As.reverse ++ rest) (hW : (rest.map fun v => v.category).sum ≤ 8) (hdg : decode cc pc = .ok (.invokestatic index, 3)) (hf : cells ≤ R.cells ∧ slots ≤ R.slots)
    (kk : ∀ (r : Int64) (w' : va_W) (H1 : Heap) (locs1 : List Loc), Z r → OI kI kA kC so σ w' → va_P (dC, dI) vwCl w' H1 → va_D A w' → va_S A H0 H1 locs1 → W p l e R s m args below meth c H1 locs1 cells slots Q (F0 m (pc + 3) ls (.long r :: rest))) :
    W p l e R s m args below meth c H locs cells slots Q (F0 m pc ls st) := by
  have hP0 : va_P (dC, dI) vwCl (w ++ []) H := by rw [List.append_nil]; exact hP
  have hD0 : va_D A (w ++ []) := by rw [List.append_nil]; exact hD
  have hFc := z_freeP hD0 hS hA
  refine va_calll (va_runS (As := As) (rest := rest) X hM cw ⟨z_blind _ _ _, fun U hU hW => ⟨rfl, by rw [hU], by rw [hU]; exact hP, va_K.moved hW.alike hK, hD.weaken (fun _ _ _ _ => trivial)⟩⟩ rfl hn hsize hst (lv_room hW) hdg hf) hS (fun q _ h => hFc q h) hFc (fun r u t H1 locs1 ht hvm hw hB hz1 hk1 hS => ?_)
  obtain ⟨hP1, hD1⟩ := hB
  rw [ht] at hP1
  exact kk r u H1 locs1 hw.2 hw.1 hP1 (hD1.weaken (fun k q _ h => hFc q.1 h)) hS
/-- a cell of the script, or behind it a number of its own: some int -/
def zXPre (b N : Nat) (sx : Nat → Int32) : State → Prop := fun U => va_X b N sx U U.heap ∧ b < U.heap.size
theorem zX_blind (b N : Nat) (sx : Nat → Int32) (As : List Value) : FrameBlind (va_Pc As (zXPre b N sx)) := fun a U g mk q => by
  obtain ⟨q0, q1, q2⟩ := q
  exact ⟨q0, va_X.moved (u := U) (U := U.calling g mk a) (Vm.Alike.refl U.vm) q1, q2⟩
set_option maxHeartbeats 4000000 in
theorem c_L_cell (l : Launch) (b N : Nat) (sx : Nat → Int32) (k : Int32) (hk : ¬ k < (0 : Int32)) (hN : N ≤ 260) : Met l yL_cell wsL_cell { frames := 0, cells := 0, slots := 0, locals := 0 } (va_Pc [.ref b, .int k] (zXPre b N sx)) (va_Qi (fun (_ : Int32) (_ : Unit) => True) (fun _ _ => True) (fun _ => False)) 0 0 (fun _ => False) := by
  refine Met.ofW (cc := cL_cell) (maxL := 2) (ret := some .int) (by decide) rfl ?_
  intro p e s m args below meth c s₁ B hml hv
  obtain ⟨rfl, hX, hbl⟩ := hv
  have hx := B.exec
  have hb := B.bytes
  have hr := B.returns
  have hlocks := B.notSynchronized
  have hl := lv_entry [.ref b, .int k] (n := 2) (Nat.le_of_ble_eq_true rfl)
  rw [lg_entry_eq]
  generalize (lg_sl [Value.ref b, Value.int k] ++ List.replicate (2 - (lg_sl [Value.ref b, Value.int k]).length) Slot.unset).toArray = ls at hl ⊢
  have hl : lv_has ls 2 [(0, .ref b), (1, .int k)] := hl
  have hS : va_S (fun _ => False) s.heap s.heap [] := va_S.rf
  refine lv_iload_n hx hb dL_cell_0 rfl (lv_at hl 1 rfl) ?_
  refine lv_aload_n hx hb dL_cell_1 rfl (lv_at hl 0 rfl) ?_
  refine va_slen hx hb hX hbl (fun h => h) hS dL_cell_2 ?_
  refine lv_icmp_ge (tgt := 12) hx hb dL_cell_3 (by decide) (fun c1 => ?_) (fun c1 => ?_)
  · refine lv_sipush (v := (7919 : Int32)) hx hb dL_cell_12 (by decide) ?_
    refine lv_iload_n hx hb dL_cell_15 rfl (lv_at hl 1 rfl) ?_
    refine lv_iconst (v := (3 : Int32)) hx hb dL_cell_16 (by decide) ?_
    refine lv_iadd hx hb dL_cell_17 ?_
    refine lv_imul hx hb dL_cell_18 ?_
    refine lv_iload_n hx hb dL_cell_19 rfl (lv_at hl 1 rfl) ?_
    refine lv_bipush (v := (11 : Int32)) hx hb dL_cell_20 (by decide) ?_
    refine lv_iadd hx hb dL_cell_22 ?_
    refine lv_imul hx hb dL_cell_23 ?_
    exact W.iret (v := _) hx hb hr (fun t ht _ => ⟨⟨_, (), rfl, trivial, trivial⟩, hS.F ht⟩) hS.2.2 dL_cell_24
  · have hin : vp_in k N := by
      obtain ⟨j, hj, rfl⟩ := nI_of hk
      refine vp_in_nI (Nat.not_le.mp fun q => c1 ?_) (by omega)
      exact nI_le q hj
    refine lv_aload_n hx hb dL_cell_6 rfl (lv_at hl 0 rfl) ?_
    refine lv_iload_n hx hb dL_cell_7 rfl (lv_at hl 1 rfl) ?_
    refine va_sld hx hb hX hbl (fun h => h) hS hin dL_cell_8 ?_
    refine lv_goto (tgt := 24) hx hb dL_cell_9 (by decide) ?_
    exact W.iret (v := _) hx hb hr (fun t ht _ => ⟨⟨_, (), rfl, trivial, trivial⟩, hS.F ht⟩) hS.2.2 dL_cell_24
theorem zcallCell {b N : Nat} {sx : Nat → Int32} {k : Int32} (X : CallFix p m c cc nL s args Ts own) (cw : CallB R s args own index yL_cell cL_cell 2 (some .int) wsL_cell { frames := 0, cells := 0, slots := 0, locals := 0 } 0 0 2 ∧ (Cond.static yL_cell).before args s = true)
    (hX : va_X b N sx s H0) (hbl : b < H0.size) (hbA : ¬ A b) (hN : N ≤ 260) (hk : ¬ k < (0 : Int32)) (hP : va_P (dC, dI) vwCl w H) (hS : va_S A H0 H locs) (hA : ∀ q, H0.size ≤ q → A q)
    (hsize : ls.size = nL) (hW : (rest.map fun v => v.category).sum ≤ 8) (hdg : decode cc pc = .ok (.invokestatic index, 3)) (hf : cells ≤ R.cells ∧ slots ≤ R.slots)
    (kk : ∀ (r : Int32) (H1 : Heap) (locs1 : List Loc), va_P (dC, dI) vwCl w H1 → va_S A H0 H1 locs1 → W p l e R s m args below meth c H1 locs1 cells slots Q (F0 m (pc + 3) ls (.int r :: rest))) :
    W p l e R s m args below meth c H locs cells slots Q (F0 m pc ls (.int k :: .ref b :: rest)) := by
  have hb2 : H[b]? = H0[b]? := hS.2.1 b hbl hbA
  have hbl2 : b < H.size := Nat.lt_of_lt_of_le hbl hS.1
  refine va_calli (va_runS (As := [.ref b, .int k]) (rest := rest) X (c_L_cell l b N sx k hk hN) cw ⟨zX_blind _ _ _ _, fun U hU hW => ⟨rfl, by rw [hU]; exact (hX.moved hW.alike).kept hb2, by rw [hU]; exact hbl2⟩⟩ rfl rfl hsize rfl (lv_room hW) hdg hf) hS (fun q _ h => h.elim) (fun q h => h.elim) (fun r u t H1 locs1 ht hvm hw hB hz1 hk1 hS => ?_)
  exact kk r H1 locs1 (hP.kept (fun k q hk => hk1 q.1 (hP k q hk).lt (fun h => h))) hS
end ZLAW
