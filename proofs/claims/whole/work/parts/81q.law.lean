/-! the law: a turn of its loop, envy -/
section LAW
variable {p : Program} {l : Launch} {e : Env} {s : State} {m : MethodId} {below : List Frame} {meth : Method} {c : Code} {dC : Nat → ClassId} {dI : Nat → Nat → Nat} {kI kA kC : ClassId} {so uo b N cells slots : Nat} {sx : Nat → Int32} {W0 : va_W} {H : Heap} {locs : List Loc} {ls : Array Slot} {x3 : Int32} {Q : State → Prop}
set_option maxHeartbeats 4000000 in
set_option maxRecDepth 100000 in
theorem law_envy (hx : p.tables.exec = Jvm.exec) (hb : c.code = cL_law) (hml : c.maxLocals = 4) (hown : s.vm.findClass RL = some m.cls) (hts : ∀ w ∈ wsL_law, w.before #[Value.ref b] s = true) (hX : va_X b N sx s s.heap) (hbl : b < s.heap.size) (hK : va_K (dC, dI) vwCl (zty kI kA kC) s) (hf : cells ≤ room_1.cells ∧ slots ≤ room_1.slots) (hI : LInv kI kA kC so uo W0) (hP : va_P (dC, dI) vwCl W0 H) (hD : va_D (fun q : Nat => s.heap.size ≤ q) W0) (hS : va_S (fun q : Nat => s.heap.size ≤ q) s.heap H locs) (hl : lv_has ls 4 [(0, .ref b), (1, .ref so), (2, .ref uo), (3, .int x3)]) (hi1 : vp_in (x3 + 1) N) (hi2 : vp_in (x3 + 2) N) (hi3 : vp_in (x3 + 3) N) (hi4 : vp_in (x3 + 4) N)
    (next : ∀ W1 H1 locs1, LInv kI kA kC so uo W1 → va_P (dC, dI) vwCl W1 H1 → va_D (fun q : Nat => s.heap.size ≤ q) W1 → va_S (fun q : Nat => s.heap.size ≤ q) s.heap H1 locs1 → W p l e room_1 s m #[Value.ref b] below meth c H1 locs1 cells slots Q (F0 m 752 ls [])) : W p l e room_1 s m #[Value.ref b] below meth c H locs cells slots Q (F0 m 594 ls []) := by
  have hA : ∀ q : Nat, s.heap.size ≤ q → (fun q : Nat => s.heap.size ≤ q) q := fun _ h => h
  have hbA : ¬ (fun q : Nat => s.heap.size ≤ q) b := Nat.not_le.mpr hbl
  refine hI _ ?_
  intro co sh xo mo no djo ss sq ca cv cr cg cw cV qo qa qv qr qg qw qV xs xv xl xS xV xt xp ma mw nro ne nE nra nrT nrs nrg dfs dro dst dto dah dar dpa dpr dgr dFp dFt dFg dFS dQc dQg dQk dSp dST dTO dAH dPA dGR dra drT drs drg ur ux ut un uf uw ub uR uk uX ul uT ui uN uF uW uB ubw ubu ubd ucm ucw ucf A k h L t hW hSt hTx hCa hZ hF0
  subst hW
  refine lv_aload_n hx hb dL_law_594 rfl (lv_at hl 1 rfl) ?_
  refine lv_aload_n hx hb dL_law_595 rfl (lv_at hl 0 rfl) ?_
  refine lv_iload_n hx hb dL_law_596 rfl (lv_at hl 3 rfl) ?_
  refine lv_iconst (v := (1 : Int32)) hx hb dL_law_597 (by decide) ?_
  refine lv_iadd hx hb dL_law_598 ?_
  refine va_sld hx hb hX hbl hbA hS hi1 dL_law_599 ?_
  refine lv_aload_n hx hb dL_law_600 rfl (lv_at hl 0 rfl) ?_
  refine lv_iload_n hx hb dL_law_601 rfl (lv_at hl 3 rfl) ?_
  refine lv_iconst (v := (2 : Int32)) hx hb dL_law_602 (by decide) ?_
  refine lv_iadd hx hb dL_law_603 ?_
  refine va_sld hx hb hX hbl hbA hS hi2 dL_law_604 ?_
  refine zcallP (ci := 6) (q0 := 0) (As := [.int (sx (x3 + 1).toNatClampNeg), .int (sx (x3 + 2).toNatClampNeg)]) (rest := []) (wr := ((kHist kI kA kC sh qo qa qv qr qg qw qV) ++ ((kText kI xo xs xv xl xS xV xt xp) ++ ((kMark kI mo ma mw) ++ ((kRings kI no nro ne nE) ++ ((kRow kI nro nra nrT nrs nrg) ++ ((kDiv kI kA djo dfs dro dst dto dah dar dpa dpr dgr dFp dFt dFg dFS dQc dQg dQk dSp dST dTO dAH dPA dGR) ++ ((kRow kI dro dra drT drs drg) ++ (kModel kI uo ur ux ut un uf uw ub uR uk uX ul uT ui uN uF uW uB ubw ubu ubd ucm ucw ucf))))))))) (Wn := fun u6 => ((kRoot so co sh xo mo no djo ss sq) ++ ((kCake kI kA co ca cv cr cg cw cV) ++ ((kHist kI kA kC sh qo qa qv qr qg qw qV) ++ ((kText kI xo xs xv xl xS xV xt xp) ++ ((kMark kI mo ma mw) ++ ((kRings kI no nro ne nE) ++ ((kRow kI nro nra nrT nrs nrg) ++ ((kDiv kI kA djo dfs dro dst dto dah dar dpa dpr dgr dFp dFt dFg dFS dQc dQg dQk dSp dST dTO dAH dPA dGR) ++ ((kRow kI dro dra drT drs drg) ++ (kModel kI uo ur ux ut un uf uw ub uR uk uX ul uT ui uN uF uW uB ubw ubu ubd ucm ucw ucf))))))))))) ⟨hx, hb, hml, hown, hts⟩ (c_X6_envy l dC dI kI kA kC so co sh xo mo no djo ca cv cr _ ss sq cg cw cV (sx (x3 + 1).toNatClampNeg) (sx (x3 + 2).toNatClampNeg) _ (op_envy (uR := uR) hSt (sx (x3 + 1).toNatClampNeg) (sx (x3 + 2).toNatClampNeg))) (cwV 2 hts gL_law_X6_envy rfl rfl rfl (by decide +kernel) ⟨Nat.le_of_ble_eq_true rfl, Nat.le_of_ble_eq_true rfl⟩) hK hP hD hS hA (zq_0_1 _ _ _ _ _ _ _ _ _ _) (fun _ => zq_0_1 _ _ _ _ _ _ _ _ _ _) rfl rfl rfl rfl hl.1 rfl (Nat.le_of_ble_eq_true rfl) dL_law_605 hf (fun r u6 H locs hw hP hD hS => ?_)
  refine lv_aload_n hx hb dL_law_608 rfl (lv_at hl 2 rfl) ?_
  refine lv_aload_n hx hb dL_law_609 rfl (lv_at hl 0 rfl) ?_
  refine lv_iload_n hx hb dL_law_610 rfl (lv_at hl 3 rfl) ?_
  refine lv_iconst (v := (1 : Int32)) hx hb dL_law_611 (by decide) ?_
  refine lv_iadd hx hb dL_law_612 ?_
  refine va_sld hx hb hX hbl hbA hS hi1 dL_law_613 ?_
  refine lv_aload_n hx hb dL_law_614 rfl (lv_at hl 0 rfl) ?_
  refine lv_iload_n hx hb dL_law_615 rfl (lv_at hl 3 rfl) ?_
  refine lv_iconst (v := (2 : Int32)) hx hb dL_law_616 (by decide) ?_
  refine lv_iadd hx hb dL_law_617 ?_
  refine va_sld hx hb hX hbl hbA hS hi2 dL_law_618 ?_
  refine zcallP (ci := 7) (q0 := 0) (As := [.int (sx (x3 + 1).toNatClampNeg), .int (sx (x3 + 2).toNatClampNeg)]) (rest := [.int r]) (wr := ((kRoot so co sh xo mo no djo ss sq) ++ ((kCake kI kA co ca cv cr cg cw cV) ++ ((kHist kI kA kC sh qo qa qv qr qg qw qV) ++ ((kText kI xo xs xv xl xS xV xt xp) ++ ((kMark kI mo ma mw) ++ ((kRings kI no nro ne nE) ++ ((kRow kI nro nra nrT nrs nrg) ++ ((kDiv kI kA djo dfs dro dst dto dah dar dpa dpr dgr dFp dFt dFg dFS dQc dQg dQk dSp dST dTO dAH dPA dGR) ++ (kRow kI dro dra drT drs drg)))))))))) (Wn := fun u7 => ((kRoot so co sh xo mo no djo ss sq) ++ ((kCake kI kA co ca cv cr cg cw cV) ++ ((kHist kI kA kC sh qo qa qv qr qg qw qV) ++ ((kText kI xo xs xv xl xS xV xt xp) ++ ((kMark kI mo ma mw) ++ ((kRings kI no nro ne nE) ++ ((kRow kI nro nra nrT nrs nrg) ++ ((kDiv kI kA djo dfs dro dst dto dah dar dpa dpr dgr dFp dFt dFg dFS dQc dQg dQk dSp dST dTO dAH dPA dGR) ++ ((kRow kI dro dra drT drs drg) ++ (kModel kI uo ur ux ut un uf uw ub uR uk uX ul uT ui uN uF uW uB ubw ubu ubd ucm ucw ucf))))))))))) ⟨hx, hb, hml, hown, hts⟩ (c_X7_envy l dC dI kI kA kC uo ur ux ut un uf uw ub _ uR uk uX ul uT ui uN uF uW uB ubw ubu ubd ucm ucw ucf (sx (x3 + 1).toNatClampNeg) (sx (x3 + 2).toNatClampNeg) _ hw) (cwV 2 hts gL_law_X7_envy rfl rfl rfl (by decide +kernel) ⟨Nat.le_of_ble_eq_true rfl, Nat.le_of_ble_eq_true rfl⟩) hK hP hD hS hA (zq_9 _ _ _ _ _ _ _ _ _ _) (fun _ => zq_9 _ _ _ _ _ _ _ _ _ _) rfl rfl rfl rfl hl.1 rfl (Nat.le_of_ble_eq_true rfl) dL_law_619 hf (fun r' u7 H locs hw hP hD hS => ?_)
  have er := hw
  refine lv_icmp_eq (tgt := 752) hx hb dL_law_622 (by decide) (fun _ => ?_) (fun q => absurd er q)
  exact next _ H locs (fun _ kk => kk co sh xo mo no djo ss sq ca cv cr cg cw cV qo qa qv qr qg qw qV xs xv xl xS xV xt xp ma mw nro ne nE nra nrT nrs nrg dfs dro dst dto dah dar dpa dpr dgr dFp dFt dFg dFS dQc dQg dQk dSp dST dTO dAH dPA dGR dra drT drs drg ur ux ut un uf uw ub uR uk uX ul uT ui uN uF uW uB ubw ubu ubd ucm ucw ucf A k h L t rfl hSt hTx hCa hZ hF0) hP hD hS
end LAW
