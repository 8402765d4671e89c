/-- the history goes round by one: the oldest state comes to the last place -/
def zrot {α : Type} (f : Nat → α) : Nat → α := fun i => if i = 4 then f 0 else f (i + 1)
theorem zrot_row (o : Nat → Nat) : (va_up (va_up (va_up (va_up (va_up (fun i => if i < 5 then some (o i) else none) 0 (some (o 1))) 1 (some (o 2))) 2 (some (o 3))) 3 (some (o 4))) 4 (some (o 0))) = (fun i => if i < 5 then some (zrot o i) else none) := by
  funext i
  unfold va_up zrot
  rcases (show i = 0 ∨ i = 1 ∨ i = 2 ∨ i = 3 ∨ i = 4 ∨ 5 ≤ i by omega) with rfl | rfl | rfl | rfl | rfl | h
  · rfl
  · rfl
  · rfl
  · rfl
  · rfl
  · have h4 : ¬ i = 4 := by omega
    have h3 : ¬ i = 3 := by omega
    have h2 : ¬ i = 2 := by omega
    have h1 : ¬ i = 1 := by omega
    have h0 : ¬ i = 0 := by omega
    have h5 : ¬ i < 5 := by omega
    simp only [h4, h3, h2, h1, h0, h5, if_false]
abbrev kCakes (kI kA : ClassId) (o a v : Nat → Nat) (r : Nat → Nat → Nat) (g : Nat → Int32) (w : Nat → Nat → Int32) (V : Nat → Nat → Nat → Int32) : va_W := (kCake kI kA (o 0) (a 0) (v 0) (r 0) (g 0) (w 0) (V 0) ++ (kCake kI kA (o 1) (a 1) (v 1) (r 1) (g 1) (w 1) (V 1) ++ (kCake kI kA (o 2) (a 2) (v 2) (r 2) (g 2) (w 2) (V 2) ++ (kCake kI kA (o 3) (a 3) (v 3) (r 3) (g 3) (w 3) (V 3) ++ kCake kI kA (o 4) (a 4) (v 4) (r 4) (g 4) (w 4) (V 4)))))
section ZQ
variable {p : Program} {l : Launch} {e : Env} {R : Room} {s : State} {m : MethodId} {args : Array Value} {below : List Frame} {meth : Method} {c : Code} {H : Heap} {locs : List Loc} {cells slots : Nat} {Q : State → Prop}
variable {cc : ByteArray} {pc : Nat} {ls : Array Slot} {rest : List Value} {D : va_G} {cl : List vw_C} {a : Nat} {tys : List (ClassId × FieldType)} {ws : va_W}
theorem zaldq (hexec : p.tables.exec = Jvm.exec) (hb : c.code = cc) (hK : va_K D cl tys s) (hP : va_P D cl ws H) (q0 t0 : Nat) {cA : ClassId} {C : String} {n : Nat} {f : Nat → Option Nat} (ha : ws[q0]? = some (a, .inl (cA, n, .inr (.inr (.inr (.inr f)))))) (ht : tys[t0]? = some (cA, .object C)) {i : Int32} (hin : vp_in i n) (hdg : decode cc pc = .ok (.aaload, 1)) {j x : Nat} (hj : i.toNatClampNeg = j) (hv : f j = some x)
    (kk : W p l e R s m args below meth c H locs cells slots Q (F0 m (pc + 1) ls (.ref x :: rest))) : W p l e R s m args below meth c H locs cells slots Q (F0 m pc ls (.int i :: .ref a :: rest)) := by
  subst hj
  refine va_aldq hexec hb hK hP q0 t0 ha ht hin hdg ?_
  rw [hv]
  exact kk
end ZQ
def Wp_X6_dropOldest (ss : Int32) (qg : Nat → Int32) (qw : Nat → Nat → Int32) (qV : Nat → Nat → Nat → Int32) (Z : Int32 → (Nat → Int32) → (Nat → Nat → Int32) → (Nat → Nat → Nat → Int32) → Prop) : Prop := Z (4 : Int32) (zrot qg) (zrot qw) (zrot qV)
theorem in_X6_dropOldest_X6 : ∀ w ∈ u_ws RX6 TX6 8, w ∈ wsX6_dropOldest := fun w h => List.mem_cons_of_mem _ (List.mem_append_right _ h)
set_option maxHeartbeats 20000000 in
set_option maxRecDepth 100000 in
theorem c_X6_dropOldest (l : Launch) (dC : Nat → ClassId) (dI : Nat → Nat → Nat) (kI kA kC : ClassId) (so co sh xo mo no djo : Nat) (qo qa qv : Nat → Nat) (qr : Nat → Nat → Nat) (sz : Nat) (ss sq : Int32) (qg : Nat → Int32) (qw : Nat → Nat → Int32) (qV : Nat → Nat → Nat → Int32) (Z : Int32 → (Nat → Int32) → (Nat → Nat → Int32) → (Nat → Nat → Nat → Int32) → Prop) (hw : Wp_X6_dropOldest ss qg qw qV Z) : zV l yX6_dropOldest wsX6_dropOldest ({ frames := 0, cells := 0, slots := 0, locals := 0 }) dC dI kI kA kC sz 0 0 [.ref so] ((kRoot so co sh xo mo no djo ss sq) ++ (kHist kI kA kC sh qo qa qv qr qg qw qV)) (fun (u : Int32 × (Nat → Int32) × (Nat → Nat → Int32) × (Nat → Nat → Nat → Int32) × (Nat → Nat) × (Nat → Nat) × (Nat → Nat) × (Nat → Nat → Nat)) => Z u.1 u.2.1 u.2.2.1 u.2.2.2.1) (fun (u : Int32 × (Nat → Int32) × (Nat → Nat → Int32) × (Nat → Nat → Nat → Int32) × (Nat → Nat) × (Nat → Nat) × (Nat → Nat) × (Nat → Nat → Nat)) => ((kRoot so co sh xo mo no djo u.1 sq) ++ (kHist kI kA kC sh u.2.2.2.2.1 u.2.2.2.2.2.1 u.2.2.2.2.2.2.1 u.2.2.2.2.2.2.2 u.2.1 u.2.2.1 u.2.2.2.1))) := by
  refine zV.of (cc := cX6_dropOldest) (maxL := 3) (by decide) rfl (Nat.le_of_ble_eq_true rfl) ?_
  intro p e s m args below meth c A Q C0 hret ls hl
  obtain ⟨hx, hb, hr, hml, hts, hown, hin, hP, hK, hD, hA, hS⟩ := C0
  have hown : s.vm.findClass RX6 = some m.cls := hown
  have hl : lv_has ls 3 [(0, .ref so)] := hl
  have hP : va_P (dC, dI) vwCl ((kRoot so co sh xo mo no djo ss sq) ++ ((sh, .inl (kC, 5, .inr (.inr (.inr (.inr (fun i => if i < 5 then some (qo i) else none)))))) :: kCakes kI kA qo qa qv qr qg qw qV) : va_W) s.heap := hP
  have hD : va_D A ((kRoot so co sh xo mo no djo ss sq) ++ ((sh, .inl (kC, 5, .inr (.inr (.inr (.inr (fun i => if i < 5 then some (qo i) else none)))))) :: kCakes kI kA qo qa qv qr qg qw qV) : va_W) := hD
  refine lv_aload_n hx hb dX6_dropOldest_0 rfl (lv_at hl 0 rfl) ?_
  refine va_get (D := (dC, dI)) (ci := 6) (v := .ref sh) (C := RX6) (T := TX6) (N := 8) hx hb hts in_X6_dropOldest_X6 hown hK hP 0 rfl rfl 1 (by decide) (hts (.fieldLink RX6 16 "CakeMarks" "history" "[LCakeMarks$Cake;") (List.mem_of_getElem? (i := 1) rfl)) (fun _ h9 => h9) rfl dX6_dropOldest_1 ?_
  refine lv_iconst (v := 0) hx hb dX6_dropOldest_4 (by decide) ?_
  refine zaldq hx hb hK hP 1 2 rfl rfl (x := qo 0) (j := 0) (show ¬ ((0 : Int32) < 0 ∨ 5 ≤ (0 : Int32).toNatClampNeg) by decide) dX6_dropOldest_5 (by decide) rfl ?_
  refine lv_astore_n (lv' := [(1, .ref (qo 0)), (0, .ref so)]) hx hb dX6_dropOldest_6 rfl hl (by decide) rfl (fun ls hl => ?_)
  refine lv_iconst (v := 1) hx hb dX6_dropOldest_7 (by decide) ?_
  refine lv_istore_n (lv' := [(2, .int 1), (1, .ref (qo 0)), (0, .ref so)]) hx hb dX6_dropOldest_8 rfl hl (by decide) rfl (fun ls hl => ?_)
  refine lv_iload_n hx hb dX6_dropOldest_9 rfl (lv_at hl 0 rfl) ?_
  refine lv_iconst (v := 5) hx hb dX6_dropOldest_10 (by decide) ?_
  refine lv_icmp_ge (tgt := 34) hx hb dX6_dropOldest_11 (by decide) (fun cq => absurd cq (by decide)) (fun cq => ?_)
  refine lv_aload_n hx hb dX6_dropOldest_14 rfl (lv_at hl 2 rfl) ?_
  refine va_get (D := (dC, dI)) (ci := 6) (v := .ref sh) (C := RX6) (T := TX6) (N := 8) hx hb hts in_X6_dropOldest_X6 hown hK hP 0 rfl rfl 1 (by decide) (hts (.fieldLink RX6 16 "CakeMarks" "history" "[LCakeMarks$Cake;") (List.mem_of_getElem? (i := 1) rfl)) (fun _ h9 => h9) rfl dX6_dropOldest_15 ?_
  refine lv_iload_n hx hb dX6_dropOldest_18 rfl (lv_at hl 0 rfl) ?_
  refine lv_iconst (v := 1) hx hb dX6_dropOldest_19 (by decide) ?_
  refine lv_isub hx hb dX6_dropOldest_20 ?_
  refine lv_topi (fun tq etq => ?_)
  have etq : tq = 0 := etq.trans (by decide)
  subst etq
  refine lv_aload_n hx hb dX6_dropOldest_21 rfl (lv_at hl 2 rfl) ?_
  refine va_get (D := (dC, dI)) (ci := 6) (v := .ref sh) (C := RX6) (T := TX6) (N := 8) hx hb hts in_X6_dropOldest_X6 hown hK hP 0 rfl rfl 1 (by decide) (hts (.fieldLink RX6 16 "CakeMarks" "history" "[LCakeMarks$Cake;") (List.mem_of_getElem? (i := 1) rfl)) (fun _ h9 => h9) rfl dX6_dropOldest_22 ?_
  refine lv_iload_n hx hb dX6_dropOldest_25 rfl (lv_at hl 0 rfl) ?_
  refine zaldq hx hb hK hP 1 2 rfl rfl (x := qo 1) (j := 1) (show ¬ ((1 : Int32) < 0 ∨ 5 ≤ (1 : Int32).toNatClampNeg) by decide) dX6_dropOldest_26 (by decide) rfl ?_
  refine va_astq hx hb hK hP hD hS 1 2 9 0 rfl rfl rfl rfl (i := 0) (show ¬ ((0 : Int32) < 0 ∨ 5 ≤ (0 : Int32).toNatClampNeg) by decide) dX6_dropOldest_27 (fun H locs hP hD hS => ?_)
  rw [show (0 : Int32).toNatClampNeg = 0 by decide] at hP hD
  have hP : va_P (dC, dI) vwCl ((kRoot so co sh xo mo no djo ss sq) ++ ((sh, .inl (kC, 5, .inr (.inr (.inr (.inr (va_up (fun i => if i < 5 then some (qo i) else none) 0 (some (qo 1)))))))) :: kCakes kI kA qo qa qv qr qg qw qV) : va_W) H := hP
  have hD : va_D A ((kRoot so co sh xo mo no djo ss sq) ++ ((sh, .inl (kC, 5, .inr (.inr (.inr (.inr (va_up (fun i => if i < 5 then some (qo i) else none) 0 (some (qo 1)))))))) :: kCakes kI kA qo qa qv qr qg qw qV) : va_W) := hD
  refine lv_iinc (v := 2) (lv' := [(2, .int 2), (1, .ref (qo 0)), (0, .ref so)]) hx hb dX6_dropOldest_28 hl (k := 0) rfl (by decide) (by decide) rfl (fun ls hl => ?_)
  refine lv_goto (tgt := 9) hx hb dX6_dropOldest_31 (by decide) ?_
  refine lv_iload_n hx hb dX6_dropOldest_9 rfl (lv_at hl 0 rfl) ?_
  refine lv_iconst (v := 5) hx hb dX6_dropOldest_10 (by decide) ?_
  refine lv_icmp_ge (tgt := 34) hx hb dX6_dropOldest_11 (by decide) (fun cq => absurd cq (by decide)) (fun cq => ?_)
  refine lv_aload_n hx hb dX6_dropOldest_14 rfl (lv_at hl 2 rfl) ?_
  refine va_get (D := (dC, dI)) (ci := 6) (v := .ref sh) (C := RX6) (T := TX6) (N := 8) hx hb hts in_X6_dropOldest_X6 hown hK hP 0 rfl rfl 1 (by decide) (hts (.fieldLink RX6 16 "CakeMarks" "history" "[LCakeMarks$Cake;") (List.mem_of_getElem? (i := 1) rfl)) (fun _ h9 => h9) rfl dX6_dropOldest_15 ?_
  refine lv_iload_n hx hb dX6_dropOldest_18 rfl (lv_at hl 0 rfl) ?_
  refine lv_iconst (v := 1) hx hb dX6_dropOldest_19 (by decide) ?_
  refine lv_isub hx hb dX6_dropOldest_20 ?_
  refine lv_topi (fun tq etq => ?_)
  have etq : tq = 1 := etq.trans (by decide)
  subst etq
  refine lv_aload_n hx hb dX6_dropOldest_21 rfl (lv_at hl 2 rfl) ?_
  refine va_get (D := (dC, dI)) (ci := 6) (v := .ref sh) (C := RX6) (T := TX6) (N := 8) hx hb hts in_X6_dropOldest_X6 hown hK hP 0 rfl rfl 1 (by decide) (hts (.fieldLink RX6 16 "CakeMarks" "history" "[LCakeMarks$Cake;") (List.mem_of_getElem? (i := 1) rfl)) (fun _ h9 => h9) rfl dX6_dropOldest_22 ?_
  refine lv_iload_n hx hb dX6_dropOldest_25 rfl (lv_at hl 0 rfl) ?_
  refine zaldq hx hb hK hP 1 2 rfl rfl (x := qo 2) (j := 2) (show ¬ ((2 : Int32) < 0 ∨ 5 ≤ (2 : Int32).toNatClampNeg) by decide) dX6_dropOldest_26 (by decide) rfl ?_
  refine va_astq hx hb hK hP hD hS 1 2 16 0 rfl rfl rfl rfl (i := 1) (show ¬ ((1 : Int32) < 0 ∨ 5 ≤ (1 : Int32).toNatClampNeg) by decide) dX6_dropOldest_27 (fun H locs hP hD hS => ?_)
  rw [show (1 : Int32).toNatClampNeg = 1 by decide] at hP hD
  have hP : va_P (dC, dI) vwCl ((kRoot so co sh xo mo no djo ss sq) ++ ((sh, .inl (kC, 5, .inr (.inr (.inr (.inr (va_up (va_up (fun i => if i < 5 then some (qo i) else none) 0 (some (qo 1))) 1 (some (qo 2)))))))) :: kCakes kI kA qo qa qv qr qg qw qV) : va_W) H := hP
  have hD : va_D A ((kRoot so co sh xo mo no djo ss sq) ++ ((sh, .inl (kC, 5, .inr (.inr (.inr (.inr (va_up (va_up (fun i => if i < 5 then some (qo i) else none) 0 (some (qo 1))) 1 (some (qo 2)))))))) :: kCakes kI kA qo qa qv qr qg qw qV) : va_W) := hD
  refine lv_iinc (v := 3) (lv' := [(2, .int 3), (1, .ref (qo 0)), (0, .ref so)]) hx hb dX6_dropOldest_28 hl (k := 0) rfl (by decide) (by decide) rfl (fun ls hl => ?_)
  refine lv_goto (tgt := 9) hx hb dX6_dropOldest_31 (by decide) ?_
  refine lv_iload_n hx hb dX6_dropOldest_9 rfl (lv_at hl 0 rfl) ?_
  refine lv_iconst (v := 5) hx hb dX6_dropOldest_10 (by decide) ?_
  refine lv_icmp_ge (tgt := 34) hx hb dX6_dropOldest_11 (by decide) (fun cq => absurd cq (by decide)) (fun cq => ?_)
  refine lv_aload_n hx hb dX6_dropOldest_14 rfl (lv_at hl 2 rfl) ?_
  refine va_get (D := (dC, dI)) (ci := 6) (v := .ref sh) (C := RX6) (T := TX6) (N := 8) hx hb hts in_X6_dropOldest_X6 hown hK hP 0 rfl rfl 1 (by decide) (hts (.fieldLink RX6 16 "CakeMarks" "history" "[LCakeMarks$Cake;") (List.mem_of_getElem? (i := 1) rfl)) (fun _ h9 => h9) rfl dX6_dropOldest_15 ?_
  refine lv_iload_n hx hb dX6_dropOldest_18 rfl (lv_at hl 0 rfl) ?_
  refine lv_iconst (v := 1) hx hb dX6_dropOldest_19 (by decide) ?_
  refine lv_isub hx hb dX6_dropOldest_20 ?_
  refine lv_topi (fun tq etq => ?_)
  have etq : tq = 2 := etq.trans (by decide)
  subst etq
  refine lv_aload_n hx hb dX6_dropOldest_21 rfl (lv_at hl 2 rfl) ?_
  refine va_get (D := (dC, dI)) (ci := 6) (v := .ref sh) (C := RX6) (T := TX6) (N := 8) hx hb hts in_X6_dropOldest_X6 hown hK hP 0 rfl rfl 1 (by decide) (hts (.fieldLink RX6 16 "CakeMarks" "history" "[LCakeMarks$Cake;") (List.mem_of_getElem? (i := 1) rfl)) (fun _ h9 => h9) rfl dX6_dropOldest_22 ?_
  refine lv_iload_n hx hb dX6_dropOldest_25 rfl (lv_at hl 0 rfl) ?_
  refine zaldq hx hb hK hP 1 2 rfl rfl (x := qo 3) (j := 3) (show ¬ ((3 : Int32) < 0 ∨ 5 ≤ (3 : Int32).toNatClampNeg) by decide) dX6_dropOldest_26 (by decide) rfl ?_
  refine va_astq hx hb hK hP hD hS 1 2 23 0 rfl rfl rfl rfl (i := 2) (show ¬ ((2 : Int32) < 0 ∨ 5 ≤ (2 : Int32).toNatClampNeg) by decide) dX6_dropOldest_27 (fun H locs hP hD hS => ?_)
  rw [show (2 : Int32).toNatClampNeg = 2 by decide] at hP hD
  have hP : va_P (dC, dI) vwCl ((kRoot so co sh xo mo no djo ss sq) ++ ((sh, .inl (kC, 5, .inr (.inr (.inr (.inr (va_up (va_up (va_up (fun i => if i < 5 then some (qo i) else none) 0 (some (qo 1))) 1 (some (qo 2))) 2 (some (qo 3)))))))) :: kCakes kI kA qo qa qv qr qg qw qV) : va_W) H := hP
  have hD : va_D A ((kRoot so co sh xo mo no djo ss sq) ++ ((sh, .inl (kC, 5, .inr (.inr (.inr (.inr (va_up (va_up (va_up (fun i => if i < 5 then some (qo i) else none) 0 (some (qo 1))) 1 (some (qo 2))) 2 (some (qo 3)))))))) :: kCakes kI kA qo qa qv qr qg qw qV) : va_W) := hD
  refine lv_iinc (v := 4) (lv' := [(2, .int 4), (1, .ref (qo 0)), (0, .ref so)]) hx hb dX6_dropOldest_28 hl (k := 0) rfl (by decide) (by decide) rfl (fun ls hl => ?_)
  refine lv_goto (tgt := 9) hx hb dX6_dropOldest_31 (by decide) ?_
  refine lv_iload_n hx hb dX6_dropOldest_9 rfl (lv_at hl 0 rfl) ?_
  refine lv_iconst (v := 5) hx hb dX6_dropOldest_10 (by decide) ?_
  refine lv_icmp_ge (tgt := 34) hx hb dX6_dropOldest_11 (by decide) (fun cq => absurd cq (by decide)) (fun cq => ?_)
  refine lv_aload_n hx hb dX6_dropOldest_14 rfl (lv_at hl 2 rfl) ?_
  refine va_get (D := (dC, dI)) (ci := 6) (v := .ref sh) (C := RX6) (T := TX6) (N := 8) hx hb hts in_X6_dropOldest_X6 hown hK hP 0 rfl rfl 1 (by decide) (hts (.fieldLink RX6 16 "CakeMarks" "history" "[LCakeMarks$Cake;") (List.mem_of_getElem? (i := 1) rfl)) (fun _ h9 => h9) rfl dX6_dropOldest_15 ?_
  refine lv_iload_n hx hb dX6_dropOldest_18 rfl (lv_at hl 0 rfl) ?_
  refine lv_iconst (v := 1) hx hb dX6_dropOldest_19 (by decide) ?_
  refine lv_isub hx hb dX6_dropOldest_20 ?_
  refine lv_topi (fun tq etq => ?_)
  have etq : tq = 3 := etq.trans (by decide)
  subst etq
  refine lv_aload_n hx hb dX6_dropOldest_21 rfl (lv_at hl 2 rfl) ?_
  refine va_get (D := (dC, dI)) (ci := 6) (v := .ref sh) (C := RX6) (T := TX6) (N := 8) hx hb hts in_X6_dropOldest_X6 hown hK hP 0 rfl rfl 1 (by decide) (hts (.fieldLink RX6 16 "CakeMarks" "history" "[LCakeMarks$Cake;") (List.mem_of_getElem? (i := 1) rfl)) (fun _ h9 => h9) rfl dX6_dropOldest_22 ?_
  refine lv_iload_n hx hb dX6_dropOldest_25 rfl (lv_at hl 0 rfl) ?_
  refine zaldq hx hb hK hP 1 2 rfl rfl (x := qo 4) (j := 4) (show ¬ ((4 : Int32) < 0 ∨ 5 ≤ (4 : Int32).toNatClampNeg) by decide) dX6_dropOldest_26 (by decide) rfl ?_
  refine va_astq hx hb hK hP hD hS 1 2 30 0 rfl rfl rfl rfl (i := 3) (show ¬ ((3 : Int32) < 0 ∨ 5 ≤ (3 : Int32).toNatClampNeg) by decide) dX6_dropOldest_27 (fun H locs hP hD hS => ?_)
  rw [show (3 : Int32).toNatClampNeg = 3 by decide] at hP hD
  have hP : va_P (dC, dI) vwCl ((kRoot so co sh xo mo no djo ss sq) ++ ((sh, .inl (kC, 5, .inr (.inr (.inr (.inr (va_up (va_up (va_up (va_up (fun i => if i < 5 then some (qo i) else none) 0 (some (qo 1))) 1 (some (qo 2))) 2 (some (qo 3))) 3 (some (qo 4)))))))) :: kCakes kI kA qo qa qv qr qg qw qV) : va_W) H := hP
  have hD : va_D A ((kRoot so co sh xo mo no djo ss sq) ++ ((sh, .inl (kC, 5, .inr (.inr (.inr (.inr (va_up (va_up (va_up (va_up (fun i => if i < 5 then some (qo i) else none) 0 (some (qo 1))) 1 (some (qo 2))) 2 (some (qo 3))) 3 (some (qo 4)))))))) :: kCakes kI kA qo qa qv qr qg qw qV) : va_W) := hD
  refine lv_iinc (v := 5) (lv' := [(2, .int 5), (1, .ref (qo 0)), (0, .ref so)]) hx hb dX6_dropOldest_28 hl (k := 0) rfl (by decide) (by decide) rfl (fun ls hl => ?_)
  refine lv_goto (tgt := 9) hx hb dX6_dropOldest_31 (by decide) ?_
  refine lv_iload_n hx hb dX6_dropOldest_9 rfl (lv_at hl 0 rfl) ?_
  refine lv_iconst (v := 5) hx hb dX6_dropOldest_10 (by decide) ?_
  refine lv_icmp_ge (tgt := 34) hx hb dX6_dropOldest_11 (by decide) (fun cq => ?_) (fun cq => absurd (by decide) cq)
  refine lv_aload_n hx hb dX6_dropOldest_34 rfl (lv_at hl 2 rfl) ?_
  refine va_get (D := (dC, dI)) (ci := 6) (v := .ref sh) (C := RX6) (T := TX6) (N := 8) hx hb hts in_X6_dropOldest_X6 hown hK hP 0 rfl rfl 1 (by decide) (hts (.fieldLink RX6 16 "CakeMarks" "history" "[LCakeMarks$Cake;") (List.mem_of_getElem? (i := 1) rfl)) (fun _ h9 => h9) rfl dX6_dropOldest_35 ?_
  refine lv_iconst (v := 4) hx hb dX6_dropOldest_38 (by decide) ?_
  refine lv_aload_n hx hb dX6_dropOldest_39 rfl (lv_at hl 1 rfl) ?_
  refine va_astq hx hb hK hP hD hS 1 2 2 0 rfl rfl rfl rfl (i := 4) (show ¬ ((4 : Int32) < 0 ∨ 5 ≤ (4 : Int32).toNatClampNeg) by decide) dX6_dropOldest_40 (fun H locs hP hD hS => ?_)
  rw [show (4 : Int32).toNatClampNeg = 4 by decide] at hP hD
  have hP : va_P (dC, dI) vwCl ((kRoot so co sh xo mo no djo ss sq) ++ ((sh, .inl (kC, 5, .inr (.inr (.inr (.inr (va_up (va_up (va_up (va_up (va_up (fun i => if i < 5 then some (qo i) else none) 0 (some (qo 1))) 1 (some (qo 2))) 2 (some (qo 3))) 3 (some (qo 4))) 4 (some (qo 0)))))))) :: kCakes kI kA qo qa qv qr qg qw qV) : va_W) H := hP
  have hD : va_D A ((kRoot so co sh xo mo no djo ss sq) ++ ((sh, .inl (kC, 5, .inr (.inr (.inr (.inr (va_up (va_up (va_up (va_up (va_up (fun i => if i < 5 then some (qo i) else none) 0 (some (qo 1))) 1 (some (qo 2))) 2 (some (qo 3))) 3 (some (qo 4))) 4 (some (qo 0)))))))) :: kCakes kI kA qo qa qv qr qg qw qV) : va_W) := hD
  refine lv_aload_n hx hb dX6_dropOldest_41 rfl (lv_at hl 2 rfl) ?_
  refine lv_iconst (v := 4) hx hb dX6_dropOldest_42 (by decide) ?_
  refine va_put (D := (dC, dI)) (ci := 6) (v := .int 4) (ty := .int) (C := RX6) (T := TX6) (N := 8) hx hb hts in_X6_dropOldest_X6 tyX6 tyX6_ok nmX6 hown hK hP hD hS 0 rfl rfl 2 (by decide) (hts (.fieldLink RX6 20 "CakeMarks" "states" "I") (List.mem_of_getElem? (i := 2) rfl)) (fun _ h9 => h9) rfl (by decide +kernel) rfl rfl (Nat.le_of_ble_eq_true rfl) dX6_dropOldest_43 (fun H locs hP hD hS => ?_)
  have hP : va_P (dC, dI) vwCl ((kRoot so co sh xo mo no djo 4 sq) ++ ((sh, .inl (kC, 5, .inr (.inr (.inr (.inr (va_up (va_up (va_up (va_up (va_up (fun i => if i < 5 then some (qo i) else none) 0 (some (qo 1))) 1 (some (qo 2))) 2 (some (qo 3))) 3 (some (qo 4))) 4 (some (qo 0)))))))) :: kCakes kI kA qo qa qv qr qg qw qV) : va_W) H := hP
  have hD : va_D A ((kRoot so co sh xo mo no djo 4 sq) ++ ((sh, .inl (kC, 5, .inr (.inr (.inr (.inr (va_up (va_up (va_up (va_up (va_up (fun i => if i < 5 then some (qo i) else none) 0 (some (qo 1))) 1 (some (qo 2))) 2 (some (qo 3))) 3 (some (qo 4))) 4 (some (qo 0)))))))) :: kCakes kI kA qo qa qv qr qg qw qV) : va_W) := hD
  rw [zrot_row] at hP hD
  have hP9 : va_P (dC, dI) vwCl ((kRoot so co sh xo mo no djo 4 sq) ++ (kHist kI kA kC sh (zrot qo) (zrot qa) (zrot qv) (zrot qr) (zrot qg) (zrot qw) (zrot qV))) H := hP.sub [0, 1, 9, 10, 11, 12, 13, 14, 15, 16, 17, 18, 19, 20, 21, 22, 23, 24, 25, 26, 27, 28, 29, 30, 31, 32, 33, 34, 35, 36, 2, 3, 4, 5, 6, 7, 8] rfl
  have hD9 : va_D A ((kRoot so co sh xo mo no djo 4 sq) ++ (kHist kI kA kC sh (zrot qo) (zrot qa) (zrot qv) (zrot qr) (zrot qg) (zrot qw) (zrot qV))) := hD.sub [0, 1, 9, 10, 11, 12, 13, 14, 15, 16, 17, 18, 19, 20, 21, 22, 23, 24, 25, 26, 27, 28, 29, 30, 31, 32, 33, 34, 35, 36, 2, 3, 4, 5, 6, 7, 8] (by decide) rfl
  unfold Wp_X6_dropOldest at hw
  exact hret 46 (4, zrot qg, zrot qw, zrot qV, zrot qo, zrot qa, zrot qv, zrot qr) _ _ _ hw hP9 hD9 hS dX6_dropOldest_46
