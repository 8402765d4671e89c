/-! the law's actions answer as they should -/
/-- what holds of an abstract object -/
def Gd (σ : Sg) : Prop := okA σ.1 ∧ σ.2.1 ≤ 5 ∧ okH σ.2.1 σ.2.2
/-- an action's end: nothing has changed, or the state was recorded -/
def Af (σ σ' : Sg) : Prop := Gd σ' ∧ σ.1.1 ≤ σ'.1.1 ∧ (σ' = σ ∨ (σ'.2.1 = recK σ.2.1 ∧ σ'.2.2 = recH σ.2.1 σ.2.2 σ.1))
section ACTSP
variable {n k g : Nat} {o : Nat → Nat} {v : Nat → Nat → Nat} {h : Nat → CA}
theorem Af_same (hG : Gd ((n, o, v), k, h)) : Af ((n, o, v), k, h) ((n, o, v), k, h) := ⟨hG, Nat.le_refl _, Or.inl rfl⟩
theorem Af_rec {n' : Nat} {o' : Nat → Nat} {v' : Nat → Nat → Nat} (hG : Gd ((n, o, v), k, h)) (hn : n ≤ n') (hA : okA (n', o', v')) : Af ((n, o, v), k, h) ((n', o', v'), recK k, recH k h (n, o, v)) := ⟨⟨hA, recK_le hG.2.1, recH_ok hG.2.1 hG.2.2 hG.1⟩, hn, Or.inr ⟨rfl, rfl⟩⟩
theorem cn_le {y : Nat} : sg (cn o y) 0 24 ≤ 24 := by
  have := sg_le (f := cn o y) (k := 1) 24 0 (fun c _ _ => by unfold cn; split <;> omega)
  omega
theorem bound_free {a b : Nat} (hab : a ≤ b) : nI b - nI a + 1 = nI (b + 1 - a) := by
  rw [pk_sub hab, nI_1]
  exact congrArg nI (by omega)
/-- what each of the law's actions ends with, for short -/
abbrev Done (n : Nat) (o : Nat → Nat) (v : Nat → Nat → Nat) (k : Nat) (h : Nat → CA) (Z : Int32 → Sg → Prop) : Prop := ∀ σ', Af ((n, o, v), k, h) σ' → Z 1 σ'
theorem a_setValue {Z : Int32 → Sg → Prop} {a b y : Nat} (hG : Gd ((n, o, v), k, h)) (hz : Done n o v k h Z) (hg : g < n) (hab : a ≤ b) (hb : b < 24) (hy : y ≤ 9) : Wq_setValue ((n, o, v), k, h) (nI g) (nI a) (nI b) (nI y) (fun r_65 sg_66 => (Wq_guest sg_66 (nI g) (0 : Int32) (fun r_67 => ((¬ r_65 = r_67 → (Z (0 : Int32) sg_66)) ∧ (r_65 = r_67 → (Wq_value sg_66 (nI g) (nI a) (fun r_69 => ((¬ r_69 = (nI y) → (Z (0 : Int32) sg_66)) ∧ (r_69 = (nI y) → (Wq_value sg_66 (nI g) (nI b) (fun r_71 => ((¬ r_71 = (nI y) → (Z (0 : Int32) sg_66)) ∧ (r_71 = (nI y) → (Z (1 : Int32) sg_66)))))))))))))) := by
  obtain ⟨⟨hn, ho', hv⟩, -, -⟩ := id hG
  have hn : n ≤ 4 := hn
  refine q_setValue hg hab hb hy ?_
  refine q_guest0 hg ⟨fun q => absurd rfl q, fun _ => ?_⟩
  refine q_value hg (by omega) ?_
  rw [sv_in ⟨rfl, by omega, by omega⟩]
  refine ⟨fun q => absurd rfl q, fun _ => ?_⟩
  refine q_value hg (by omega) ?_
  rw [sv_in ⟨rfl, by omega, by omega⟩]
  exact ⟨fun q => absurd rfl q, fun _ => hz _ (Af_rec hG (Nat.le_refl n) ⟨hn, ho', sv_ok hy hv⟩)⟩
theorem a_give {Z : Int32 → Sg → Prop} {a b : Nat} (hG : Gd ((n, o, v), k, h)) (hz : Done n o v k h Z) (hg : g < n) (hab : a ≤ b) (hb : b < 24) : Wq_count ((n, o, v), k, h) (1 : Int32) (fun r_55 => (Wq_guest ((n, o, v), k, h) (nI g) (2 : Int32) (fun r_56 => (Wq_give ((n, o, v), k, h) (nI g) (nI a) (nI b) (fun r_57 sg_58 => (Wq_count sg_58 (1 : Int32) (fun r_59 => ((¬ r_59 = (r_55 - r_57) → (Z (0 : Int32) sg_58)) ∧ (r_59 = (r_55 - r_57) → (Wq_guest sg_58 (nI g) (2 : Int32) (fun r_61 => ((¬ r_61 = (r_56 + r_57) → (Z (0 : Int32) sg_58)) ∧ (r_61 = (r_56 + r_57) → (((((nI b) - (nI a)) + (1 : Int32)) < r_57 → (Z (0 : Int32) sg_58)) ∧ (¬ (((nI b) - (nI a)) + (1 : Int32)) < r_57 → (Z (1 : Int32) sg_58)))))))))))))))) := by
  obtain ⟨⟨hn, ho', hv⟩, -, -⟩ := id hG
  have hn : n ≤ 4 := hn
  have ho' : okO n o := ho'
  refine q_count1 (q_guest2 hg (q_give hg hab hb (q_count1 ?_)))
  obtain ⟨c1, c2, c3⟩ := ho_cnt (h := g + 1) (by omega) (b + 1 - a) a o 0 (by omega)
  have b1 := cn_le (o := o) (y := 0)
  have e1 : nI (sg (cn o 0) 0 24) - nI (ho (g + 1) (b + 1 - a) a o 0).2 = nI (sg (cn (ho (g + 1) (b + 1 - a) a o 0).1 0) 0 24) := (pk_sub (by omega)).trans (congrArg nI (by omega))
  have e2 : nI (sg (cn o (g + 1)) 0 24) + nI (ho (g + 1) (b + 1 - a) a o 0).2 = nI (sg (cn (ho (g + 1) (b + 1 - a) a o 0).1 (g + 1)) 0 24) := (nI_add _ _).trans (congrArg nI (by omega))
  refine ⟨fun q => absurd e1.symm q, fun _ => q_guest2 hg ⟨fun q => absurd e2.symm q, fun _ => ?_⟩⟩
  refine pk_lt (b + 1 - a) (ho (g + 1) (b + 1 - a) a o 0).2 (fun q => absurd q (by omega)) (fun _ => ?_) (bound_free hab)
  exact hz _ (Af_rec hG (Nat.le_refl n) ⟨hn, ho_ok (by show g + 1 ≤ n; omega) _ _ _ _ ho', hv⟩)
theorem a_putBack {Z : Int32 → Sg → Prop} {a b : Nat} (hG : Gd ((n, o, v), k, h)) (hz : Done n o v k h Z) (hab : a ≤ b) (hb : b < 24) : Wq_count ((n, o, v), k, h) (1 : Int32) (fun r_46 => (Wq_putBack ((n, o, v), k, h) (nI a) (nI b) (fun r_47 sg_48 => (Wq_count sg_48 (1 : Int32) (fun r_49 => ((¬ r_49 = (r_46 + r_47) → (Z (0 : Int32) sg_48)) ∧ (r_49 = (r_46 + r_47) → (Wq_crumb sg_48 (nI a) (fun r_51 => ((¬ r_51 = (-9 : Int32) → (Z (0 : Int32) sg_48)) ∧ (r_51 = (-9 : Int32) → (Wq_crumb sg_48 (nI b) (fun r_53 => ((¬ r_53 = (-9 : Int32) → (Z (0 : Int32) sg_48)) ∧ (r_53 = (-9 : Int32) → (Z (1 : Int32) sg_48)))))))))))))))) := by
  obtain ⟨⟨hn, ho', hv⟩, -, -⟩ := id hG
  have hn : n ≤ 4 := hn
  have ho' : okO n o := ho'
  refine q_count1 (q_putBack hab hb (q_count1 ?_))
  have c1 := tb_cnt (b + 1 - a) a o 0 (by omega)
  have e1 : nI (sg (cn o 0) 0 24) + nI (tb (b + 1 - a) a o 0).2 = nI (sg (cn (tb (b + 1 - a) a o 0).1 0) 0 24) := (nI_add _ _).trans (congrArg nI (by omega))
  refine ⟨fun q => absurd e1.symm q, fun _ => q_crumb (by omega) ?_⟩
  rw [tb_at (b + 1 - a) a o 0 a (Nat.le_refl a) (by omega)]
  refine ⟨fun q => absurd rfl q, fun _ => q_crumb hb ?_⟩
  rw [tb_at (b + 1 - a) a o 0 b hab (by omega)]
  exact ⟨fun q => absurd rfl q, fun _ => hz _ (Af_rec hG (Nat.le_refl n) ⟨hn, tb_ok _ _ _ _ ho', hv⟩)⟩
theorem a_trim {Z : Int32 → Sg → Prop} {j : Nat} (hG : Gd ((n, o, v), k, h)) (hz : Done n o v k h Z) (hg : g < n) (hj : j < n) (hgj : g ≠ j) : Wq_count ((n, o, v), k, h) (1 : Int32) (fun r_26 => (Wq_trim ((n, o, v), k, h) (nI g) (nI j) (fun r_27 sg_28 => (Wq_count sg_28 (1 : Int32) (fun r_29 => ((¬ r_29 = (r_26 + r_27) → (Z (0 : Int32) sg_28)) ∧ (r_29 = (r_26 + r_27) → (Wq_envy sg_28 (nI j) (nI g) (fun r_31 => ((¬ r_31 = (0 : Int32) → (Z (0 : Int32) sg_28)) ∧ (r_31 = (0 : Int32) → (Z (1 : Int32) sg_28)))))))))))) := by
  obtain ⟨⟨hn, ho', hv⟩, -, -⟩ := id hG
  have hn : n ≤ 4 := hn
  have ho' : okO n o := ho'
  refine q_count1 (q_trim hg hj hgj (q_count1 ?_))
  have c1 := tr_cnt (v := v) (g := g) (k := j) 24 o 0 (Nat.le_refl _)
  have c2 := tr_end (v := v) (g := g) (k := j) 24 o 0 (Nat.le_refl _) (fun i i1 i2 => absurd i2 (by omega))
  have e1 : nI (sg (cn o 0) 0 24) + nI (tr v g j 24 o 0).2 = nI (sg (cn (tr v g j 24 o 0).1 0) 0 24) := (nI_add _ _).trans (congrArg nI (by omega))
  refine ⟨fun q => absurd e1.symm q, fun _ => q_envy hj hg (fun e => hgj e.symm) ?_⟩
  have e2 : En v (tr v g j 24 o 0).1 j g = 0 := by unfold En; omega
  rw [e2]
  exact ⟨fun q => absurd rfl q, fun _ => hz _ (Af_rec hG (Nat.le_refl n) ⟨hn, tr_ok _ _ _ ho', hv⟩)⟩
theorem a_addGuest {Z : Int32 → Sg → Prop} (hG : Gd ((n, o, v), k, h)) (hz : Done n o v k h Z) (h4 : n < 4) : Wq_addGuest ((n, o, v), k, h) (fun r_15 sg_16 => ((¬ r_15 = nI n → (Z (0 : Int32) sg_16)) ∧ (r_15 = nI n → (Wq_guest sg_16 (nI n) (0 : Int32) (fun r_18 => ((¬ r_18 = (24 : Int32) → (Z (0 : Int32) sg_16)) ∧ (r_18 = (24 : Int32) → (Wq_guest sg_16 (nI n) (2 : Int32) (fun r_20 => ((¬ r_20 = (0 : Int32) → (Z (0 : Int32) sg_16)) ∧ (r_20 = (0 : Int32) → (Z (1 : Int32) sg_16)))))))))))) := by
  obtain ⟨⟨hn, ho', hv⟩, -, -⟩ := id hG
  have ho' : okO n o := ho'
  refine q_addGuest h4 ⟨fun q => absurd rfl q, fun _ => ?_⟩
  refine q_guest0 (by omega) ?_
  rw [To_new]
  refine ⟨fun q => absurd rfl q, fun _ => q_guest2 (by omega) ?_⟩
  rw [none_of ho' (show n < n + 1 by omega)]
  exact ⟨fun q => absurd rfl q, fun _ => hz _ (Af_rec hG (Nat.le_succ n) ⟨by show n + 1 ≤ 4; omega, fun j hj => Nat.le_succ_of_le (ho' j hj), sv_ok (by omega) hv⟩)⟩
theorem a_middle {Z : Int32 → Sg → Prop} {a1 a2 : Int32} {J : Int32 → Int32 → Int32 → Int32 → Int32 → Int32 → Sg → Prop} (hG : Gd ((n, o, v), k, h)) (hz : Done n o v k h Z) (hg : g < n) : K_L_acts_883 a1 a2 Z J (nI n) (nI g) ((n, o, v), k, h) := by
  obtain ⟨⟨hn, ho', hv⟩, -, -⟩ := id hG
  have hn : n ≤ 4 := hn
  have hv : okV v := hv
  have fin := hz _ (Af_same hG)
  have hin := cutOf_in (f := v g) (a := 0) (b := 23) (by omega)
  obtain ⟨gd1, gd2⟩ := FF_gd (v := v) (show 1 ≤ n by omega) hn hv
  obtain ⟨f1, f2⟩ := FF_in (v := v) (show 1 ≤ n by omega) hn hv
  refine q_middle hg ?_
  refine pk_le (cutOf (v g) 0 23) 0 (fun q => absurd q (by omega)) (fun _ => ?_)
  refine pk_le 24 (cutOf (v g) 0 23) (fun q => absurd q (by omega)) (fun _ => ?_)
  refine pk_eq n 4 (fun _ => fin) (fun h4 => ?_)
  have b216 : (FF v n).1 ≤ 216 ∧ (FF v n).2.1 ≤ 216 := FF_bd (by omega) hn hv
  refine q_best (x := 0) (by omega) (by omega) ?_
  have e0 : bestV v n 0 = nI ((FF v n).1 / Nat.gcd (FF v n).1 (FF v n).2.1) := if_pos rfl
  rw [e0]
  have d0 := Nat.div_le_self (FF v n).1 (Nat.gcd (FF v n).1 (FF v n).2.1)
  refine pk_lt _ 0 (fun q => absurd q (by omega)) (fun _ => ?_)
  refine q_best (x := 1) (by omega) (by omega) ?_
  have e1 : bestV v n 1 = nI (lden (FF v n).1 (FF v n).2.1) := by unfold bestV; rw [if_neg (by omega), if_pos rfl]
  rw [e1]
  have l1 := low_pos (W := (FF v n).1) (T := (FF v n).2.1)
  have l2 := (low_le b216.2 gd2).2
  refine pk_le (lden (FF v n).1 (FF v n).2.1) 0 (fun q => absurd q (by omega)) (fun _ => ?_)
  refine q_best (x := 2) (by omega) (by omega) ?_
  have e2 : bestV v n 2 = nI (FF v n).2.2.1 := by unfold bestV; rw [if_neg (by omega), if_neg (by omega), if_pos rfl]
  rw [e2]
  refine pk_lt _ 0 (fun q => absurd q (by omega)) (fun _ => ?_)
  refine pk_lt n 2 (fun _ => fin) (fun h2 => ?_)
  obtain ⟨c1, c2⟩ := FF_cut (v := v) h2 hn hv
  have x1 : (1 : Int32) + nI n = nI (1 + n) := nI_add 1 n
  have x2 : (2 : Int32) + nI n = nI (2 + n) := nI_add 2 n
  rw [x1, x2]
  refine q_best (x := 1 + n) (by omega) (by omega) ?_
  have e3 : bestV v n (1 + n) = nI ((FF v n).2.2.2.getD (n - 1) 0) := by
    unfold bestV
    rw [if_neg (by omega), if_neg (by omega), if_neg (by omega), if_neg (by omega), show 1 + n - 2 = n - 1 by omega]
  rw [e3]
  refine pk_le ((FF v n).2.2.2.getD (n - 1) 0) 0 (fun q => absurd q (by omega)) (fun _ => ?_)
  refine q_best (x := 2 + n) (by omega) (by omega) ?_
  have e4 : bestV v n (2 + n) = -9 := by
    unfold bestV
    rw [if_neg (by omega), if_neg (by omega), if_neg (by omega), if_pos (by omega)]
  rw [e4]
  exact ⟨fun q => absurd rfl q, fun _ => fin⟩
theorem a_exchange {Z : Int32 → Sg → Prop} {a1 a2 : Int32} {J : Int32 → Int32 → Int32 → Int32 → Int32 → Int32 → Sg → Prop} (hG : Gd ((n, o, v), k, h)) (hz : Done n o v k h Z) : Wq_ring ((n, o, v), k, h) (0 : Int32) (fun r_22 => (((0 : Int32) ≤ r_22 → (Wq_guest ((n, o, v), k, h) r_22 (1 : Int32) (fun r_24 => (K_L_acts_760 a1 a2 Z J r_22 ((n, o, v), k, h) r_24)))) ∧ (¬ (0 : Int32) ≤ r_22 → (K_L_acts_760 a1 a2 Z J r_22 ((n, o, v), k, h) (0 : Int32))))) := by
  obtain ⟨⟨hn, ho', hv⟩, -, -⟩ := id hG
  have hn : n ≤ 4 := hn
  have ho' : okO n o := ho'
  have hv : okV v := hv
  have h9 : ¬ (0 : Int32) ≤ -9 := by decide
  cases hr : ringA (Eo v o) n with
  | none =>
    refine q_ring (P := 0) (by omega) (fun l hl => by rw [hr] at hl; cases hl) (fun _ => ?_)
    refine ⟨fun q => absurd q h9, fun _ => ⟨fun q => absurd q h9, fun _ => ?_⟩⟩
    refine q_exchange (fun l hl => by rw [hr] at hl; cases hl) (fun _ => ?_)
    exact ⟨fun q => absurd q h9, fun _ => ⟨fun q => absurd rfl q, fun _ => hz _ (Af_same hG)⟩⟩
  | some l =>
    obtain ⟨a1', a2', a3, a4, a5, a6, a7⟩ := ring_told hn hr
    have b0 := a3 0 (by omega)
    have b1 := a3 1 (by omega)
    have p0 : (0 : Int32) ≤ nI (l.getD 0 0) := nI_pos' (by omega)
    have b5 := a5 0 (by omega)
    have e2 : nx l.length 0 = 1 := by unfold nx; rw [if_pos (by omega)]
    rw [e2] at b5
    refine q_ring (P := 0) (by omega) (fun l' hl' => ?_) (fun hl' => by rw [hr] at hl'; cases hl')
    rw [hr] at hl'
    cases hl'
    rw [if_pos (by omega)]
    refine ⟨fun _ => q_guest1 b0 ⟨fun _ => ?_, fun q => absurd p0 q⟩, fun q => absurd p0 q⟩
    refine q_ring (P := 1) (by omega) (fun l' hl' => ?_) (fun hl' => by rw [hr] at hl'; cases hl')
    rw [hr] at hl'
    cases hl'
    rw [if_pos (by omega)]
    refine q_envy b0 b1 (fun e => ?_) ?_
    · rw [← e, En_self] at b5
      omega
    refine q_exchange (fun l' hl' => ?_) (fun hl' => by rw [hr] at hl'; cases hl')
    rw [hr] at hl'
    cases hl'
    refine ⟨fun _ => pk_le l.length 1 (fun q => absurd q (by omega)) (fun _ => q_guest1 b0 ?_), fun q => absurd p0 q⟩
    have hx := ring_x hn ho' hr
    rw [hx, nI_add]
    exact ⟨fun q => absurd rfl q, fun _ => hz _ (Af_rec hG (Nat.le_refl n) ⟨hn, fun c hc => xo_ok a3 (ho' c hc), hv⟩)⟩
theorem a_move {Z : Int32 → Sg → Prop} {a1 a2 : Int32} {J : Int32 → Int32 → Int32 → Int32 → Int32 → Int32 → Sg → Prop} {P S : Nat} (hG : Gd ((n, o, v), k, h)) (hz : Done n o v k h Z) (hg : g < n) (p1 : 1 ≤ P) (p2 : P ≤ 100) (s1 : 1 ≤ S) (s2 : S < 2 ^ n) : Wq_calls ((n, o, v), k, h) (nI P) (nI S) (fun r_39 => (Wq_guest ((n, o, v), k, h) (nI g) (1 : Int32) (fun r_40 => (Wq_guest ((n, o, v), k, h) (nI g) (2 : Int32) (fun r_41 => (Wq_move ((n, o, v), k, h) (nI P) (nI S) (fun r_42 sg_43 => (Wq_guest sg_43 (nI g) (2 : Int32) (fun r_44 => ((r_44 ≤ r_41 → (K_L_acts_362 a1 a2 Z J (nI n) (nI g) (nI S) (nI P) r_39 r_40 r_42 sg_43 (0 : Int32))) ∧ (¬ r_44 ≤ r_41 → (K_L_acts_362 a1 a2 Z J (nI n) (nI g) (nI S) (nI P) r_39 r_40 r_42 sg_43 (1 : Int32))))))))))))) := by
  obtain ⟨⟨hn, ho', hv⟩, -, -⟩ := id hG
  have hn : n ≤ 4 := hn
  have ho' : okO n o := ho'
  have hv : okV v := hv
  have hp := q_pow n (by omega)
  have hok := mv_ok (v := v) (P := nI P) 24 0 (nI S) 0 0 o ho'
  have fin := hz _ (Af_rec hG (Nat.le_refl n) ⟨hn, hok, hv⟩)
  have hc := mv_cnt (o := o) hn hv p2 24 0 S 0 0 (by omega) (Nat.le_refl 0) (by omega)
  have hpop := pop_le n (by omega) S (by omega) s2
  have hget := mv_get (o := o) hn hv p2 (show g < 4 by omega) 24 0 S 0 0 (by omega) (Nat.le_refl 0) (by omega)
  refine q_calls p1 p2 s1 s2 (q_guest1 hg (q_guest2 hg (q_move p1 p2 s1 s2 (q_guest2 hg ?_))))
  have b1 := cn_le (o := o) (y := g + 1)
  have b2 := cn_le (o := (mv v n (nI P) 24 0 (nI S) 0 0 o).1) (y := g + 1)
  refine pk_le (sg (cn (mv v n (nI P) 24 0 (nI S) 0 0 o).1 (g + 1)) 0 24) (sg (cn o (g + 1)) 0 24) (fun _ => ?_) (fun q => ?_)
  · refine ⟨fun q => absurd rfl q, fun _ => pk_lt n (mv v n (nI P) 24 0 (nI S) 0 0 o).2 (fun q => absurd q (by omega)) (fun _ => ?_)⟩
    exact ⟨fun _ => fin, fun q => absurd rfl q⟩
  · refine ⟨fun q => absurd rfl q, fun _ => pk_lt n (mv v n (nI P) 24 0 (nI S) 0 0 o).2 (fun q => absurd q (by omega)) (fun _ => ?_)⟩
    refine ⟨fun q => absurd q (by decide), fun _ => ?_⟩
    have eb := q_bit S (by omega) g (by omega)
    have bm : S / 2 ^ g % 2 < 2 := Nat.mod_lt _ (by omega)
    have hbit : S / 2 ^ g % 2 = 1 := by
      rcases Nat.lt_or_ge (S / 2 ^ g % 2) 1 with z | z
      · have := xp_C (hget.1 (by omega))
        omega
      · omega
    rw [eb, hbit]
    refine ⟨fun q => absurd rfl q, fun _ => q_guest1 hg (q_guest0 hg ?_)⟩
    have b3 := Wo_le (o := o) (h := g + 1) hv (show g < 4 by omega)
    have b4 := Wo_le (o := (mv v n (nI P) 24 0 (nI S) 0 0 o).1) (h := g + 1) hv (show g < 4 by omega)
    have b5 := To_le hv (show g < 4 by omega)
    rcases hget.2 hbit with z | z
    · have := xp_C z
      omega
    · have b6 : P * To v g ≤ 100 * 216 := Nat.mul_le_mul p2 b5
      have hle : Wo v o g (g + 1) ≤ Wo v (mv v n (nI P) 24 0 (nI S) 0 0 o).1 g (g + 1) := by omega
      have e1 : (100 : Int32) * (nI (Wo v (mv v n (nI P) 24 0 (nI S) 0 0 o).1 g (g + 1)) - nI (Wo v o g (g + 1))) = nI (100 * (Wo v (mv v n (nI P) 24 0 (nI S) 0 0 o).1 g (g + 1) - Wo v o g (g + 1))) := by
        rw [pk_sub hle]
        exact pk_mul 100 _
      exact pk_lt (100 * (Wo v (mv v n (nI P) 24 0 (nI S) 0 0 o).1 g (g + 1) - Wo v o g (g + 1))) (P * To v g) (fun q => absurd q (by omega)) (fun _ => fin) e1 (pk_mul _ _)
end ACTSP
