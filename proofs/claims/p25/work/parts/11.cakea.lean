-- CakeMarks$Cake.takeOwners([I)V
def Wp_X0_takeOwners (cw : Nat → Int32) (fw : Nat → Int32) (Z : (Nat → Int32) → Prop) : Prop := (Z (va_cpy fw cw 0 0 24))
theorem in_X0_takeOwners_X0 : ∀ w ∈ u_ws RX0 TX0 3, w ∈ wsX0_takeOwners := fun w h => List.mem_cons_of_mem _ (List.mem_append_right _ h)
set_option maxHeartbeats 20000000 in
set_option maxRecDepth 100000 in
theorem c_X0_takeOwners (l : Launch) (dC : Nat → ClassId) (dI : Nat → Nat → Nat) (kI kA kC : ClassId) (co : Nat) (ca : Nat) (cv : Nat) (cr : Nat → Nat) (fo : Nat) (sz : Nat) (cg : Int32) (cw : Nat → Int32) (cV : Nat → Nat → Int32) (fw : Nat → Int32) (Z : (Nat → Int32) → Prop) (hw : Wp_X0_takeOwners cw fw Z) : zV l yX0_takeOwners wsX0_takeOwners ({ frames := 1, cells := 0, slots := 0, locals := 30 }) dC dI kI kA kC sz 0 0 [.ref co, .ref fo] ((kCake kI kA co ca cv cr cg cw cV) ++ (kArr kI fo fw)) (fun (u : (Nat → Int32)) => Z u) (fun (u : (Nat → Int32)) => ((kCake kI kA co ca cv cr cg u cV) ++ (kArr kI fo fw))) := by
  refine zV.of (cc := cX0_takeOwners) (maxL := 2) (by decide) rfl (Nat.le_of_ble_eq_true rfl) ?_
  intro p e s m args below meth c A Q C0 hret ls hl
  obtain ⟨hx, hb, hr, hml, hts, hown, hin, hP, hK, hD, hA, hS⟩ := C0
  have hown : s.vm.findClass RX0 = some m.cls := hown
  have hl : lv_has ls 2 [(0, .ref co), (1, .ref fo)] := hl
  unfold Wp_X0_takeOwners at hw
  refine lv_aload_n hx hb dX0_takeOwners_0 rfl (lv_at hl 1 rfl) ?_
  refine lv_iconst (v := (0 : Int32)) hx hb dX0_takeOwners_1 (by decide) ?_
  refine lv_aload_n hx hb dX0_takeOwners_2 rfl (lv_at hl 0 rfl) ?_
  refine va_get (D := (dC, dI)) (ci := 0) (v := .ref ca) (C := RX0) (T := TX0) (N := 3) hx hb hts in_X0_takeOwners_X0 hown hK hP 0 rfl rfl 1 (by decide) (hts (.fieldLink RX0 15 "CakeMarks$Cake" "owner" "[I") (List.mem_of_getElem? (i := 1) rfl)) (fun _ h9 => h9) rfl dX0_takeOwners_3 ?_
  refine lv_iconst (v := (0 : Int32)) hx hb dX0_takeOwners_6 (by decide) ?_
  refine lv_bipush (v := (24 : Int32)) hx hb dX0_takeOwners_7 (by decide) ?_
  refine zcopy hx hb (hml.trans hl.1.symm) hown (hts (.methodLink RX0 32 arraycopyName) (List.mem_of_getElem? (i := 2) rfl)) (hts (.native arraycopyName) (List.mem_of_getElem? (i := 3) rfl)) (hts (.static arraycopyName) (List.mem_of_getElem? (i := 4) rfl)) (hts (.initialized "java/lang/System") (List.mem_of_getElem? (i := 5) rfl)) hK hP hD hS 7 1 rfl rfl (Nat.le_of_ble_eq_true rfl) (Nat.le_of_ble_eq_true rfl) dX0_takeOwners_9 (fun H locs hP hD hS => ?_)
  have hP : va_P (dC, dI) vwCl ((kCake kI kA co ca cv cr cg (va_cpy fw cw 0 0 24) cV) ++ (kArr kI fo fw)) H := hP
  have hD : va_D A ((kCake kI kA co ca cv cr cg (va_cpy fw cw 0 0 24) cV) ++ (kArr kI fo fw)) := hD
  exact hret 12 (va_cpy fw cw 0 0 24) _ _ _ hw hP hD hS dX0_takeOwners_12
-- CakeMarks$Cake.takeValues(I[I)V
def Wp_X0_takeValues (cV : Nat → Nat → Int32) (fw : Nat → Int32) (a1 : Int32) (Z : (Nat → Nat → Int32) → Prop) : Prop := (vp_in a1 4 ∧ (Z (va_up cV a1.toNatClampNeg (va_cpy fw (cV a1.toNatClampNeg) 0 0 24))))
theorem in_X0_takeValues_X0 : ∀ w ∈ u_ws RX0 TX0 3, w ∈ wsX0_takeValues := fun w h => List.mem_cons_of_mem _ (List.mem_append_right _ h)
set_option maxHeartbeats 20000000 in
set_option maxRecDepth 100000 in
theorem c_X0_takeValues (l : Launch) (dC : Nat → ClassId) (dI : Nat → Nat → Nat) (kI kA kC : ClassId) (co : Nat) (ca : Nat) (cv : Nat) (cr : Nat → Nat) (fo : Nat) (sz : Nat) (cg : Int32) (cw : Nat → Int32) (cV : Nat → Nat → Int32) (fw : Nat → Int32) (a1 : Int32) (Z : (Nat → Nat → Int32) → Prop) (hw : Wp_X0_takeValues cV fw a1 Z) : zV l yX0_takeValues wsX0_takeValues ({ frames := 1, cells := 0, slots := 0, locals := 30 }) dC dI kI kA kC sz 0 0 [.ref co, .int a1, .ref fo] ((kCake kI kA co ca cv cr cg cw cV) ++ (kArr kI fo fw)) (fun (u : (Nat → Nat → Int32)) => Z u) (fun (u : (Nat → Nat → Int32)) => ((kCake kI kA co ca cv cr cg cw u) ++ (kArr kI fo fw))) := by
  refine zV.of (cc := cX0_takeValues) (maxL := 3) (by decide) rfl (Nat.le_of_ble_eq_true rfl) ?_
  intro p e s m args below meth c A Q C0 hret ls hl
  obtain ⟨hx, hb, hr, hml, hts, hown, hin, hP, hK, hD, hA, hS⟩ := C0
  have hown : s.vm.findClass RX0 = some m.cls := hown
  have hl : lv_has ls 3 [(0, .ref co), (1, .int a1), (2, .ref fo)] := hl
  unfold Wp_X0_takeValues at hw
  refine lv_aload_n hx hb dX0_takeValues_0 rfl (lv_at hl 2 rfl) ?_
  refine lv_iconst (v := (0 : Int32)) hx hb dX0_takeValues_1 (by decide) ?_
  refine lv_aload_n hx hb dX0_takeValues_2 rfl (lv_at hl 0 rfl) ?_
  refine va_get (D := (dC, dI)) (ci := 0) (v := .ref cv) (C := RX0) (T := TX0) (N := 3) hx hb hts in_X0_takeValues_X0 hown hK hP 0 rfl rfl 2 (by decide) (hts (.fieldLink RX0 21 "CakeMarks$Cake" "values" "[[I") (List.mem_of_getElem? (i := 1) rfl)) (fun _ h9 => h9) rfl dX0_takeValues_3 ?_
  refine lv_iload_n hx hb dX0_takeValues_6 rfl (lv_at hl 1 rfl) ?_
  obtain ⟨h_1, hw⟩ := hw
  refine zald hx hb hK hP 2 1 rfl rfl rfl h_1 rfl dX0_takeValues_7 ?_
  refine lv_iconst (v := (0 : Int32)) hx hb dX0_takeValues_8 (by decide) ?_
  refine lv_bipush (v := (24 : Int32)) hx hb dX0_takeValues_9 (by decide) ?_
  refine zcopy hx hb (hml.trans hl.1.symm) hown (hts (.methodLink RX0 32 arraycopyName) (List.mem_of_getElem? (i := 2) rfl)) (hts (.native arraycopyName) (List.mem_of_getElem? (i := 3) rfl)) (hts (.static arraycopyName) (List.mem_of_getElem? (i := 4) rfl)) (hts (.initialized "java/lang/System") (List.mem_of_getElem? (i := 5) rfl)) hK hP hD hS 7 (3 + a1.toNatClampNeg) rfl (co_4 (P := fun g => ((kCake kI kA co ca cv cr cg cw cV) ++ (kArr kI fo fw))[3 + g]? = some (cr g, zi kI 24 (cV g))) rfl rfl rfl rfl (z_lt h_1)) (Nat.le_of_ble_eq_true rfl) (Nat.le_of_ble_eq_true rfl) dX0_takeValues_11 (fun H locs hP hD hS => ?_)
  have e_2 := co_4 (P := fun g => List.set ((kCake kI kA co ca cv cr cg cw cV) ++ (kArr kI fo fw)) (3 + g) (cr g, zi kI 24 (va_cpy fw (cV g) 0 0 24)) = ((kCake kI kA co ca cv cr cg cw (va_up cV g (va_cpy fw (cV g) 0 0 24))) ++ (kArr kI fo fw))) rfl rfl rfl rfl (z_lt h_1)
  have hP : va_P (dC, dI) vwCl ((kCake kI kA co ca cv cr cg cw (va_up cV a1.toNatClampNeg (va_cpy fw (cV a1.toNatClampNeg) 0 0 24))) ++ (kArr kI fo fw)) H := Eq.mp (congrArg (fun w => va_P (dC, dI) vwCl w H) e_2) hP
  have hD : va_D A ((kCake kI kA co ca cv cr cg cw (va_up cV a1.toNatClampNeg (va_cpy fw (cV a1.toNatClampNeg) 0 0 24))) ++ (kArr kI fo fw)) := Eq.mp (congrArg (fun w => va_D A w) e_2) hD
  exact hret 14 (va_up cV a1.toNatClampNeg (va_cpy fw (cV a1.toNatClampNeg) 0 0 24)) _ _ _ hw hP hD hS dX0_takeValues_14
-- CakeMarks$Cake.become(LCakeMarks$Cake;)V
def Wp_X0_become (cg : Int32) (cw : Nat → Int32) (cV : Nat → Nat → Int32) (eg : Int32) (ew : Nat → Int32) (eV : Nat → Nat → Int32) (Z : Int32 → (Nat → Int32) → (Nat → Nat → Int32) → Prop) : Prop := (Wp_X0_takeOwners cw ew (fun cw_1 => (Wp_X0_takeValues cV (eV 0) (0 : Int32) (fun cV_3 => (Wp_X0_takeValues cV_3 (eV 1) (1 : Int32) (fun cV_5 => (Wp_X0_takeValues cV_5 (eV 2) (2 : Int32) (fun cV_7 => (Wp_X0_takeValues cV_7 (eV 3) (3 : Int32) (fun cV_9 => (Z eg cw_1 cV_9)))))))))))
theorem in_X0_become_X0 : ∀ w ∈ u_ws RX0 TX0 3, w ∈ wsX0_become := fun w h => List.mem_cons_of_mem _ (List.mem_append_right _ h)
set_option maxHeartbeats 20000000 in
set_option maxRecDepth 100000 in
theorem c_X0_become (l : Launch) (dC : Nat → ClassId) (dI : Nat → Nat → Nat) (kI kA kC : ClassId) (co : Nat) (ca : Nat) (cv : Nat) (cr : Nat → Nat) (eo : Nat) (ea : Nat) (ev : Nat) (er : Nat → Nat) (sz : Nat) (cg : Int32) (cw : Nat → Int32) (cV : Nat → Nat → Int32) (eg : Int32) (ew : Nat → Int32) (eV : Nat → Nat → Int32) (Z : Int32 → (Nat → Int32) → (Nat → Nat → Int32) → Prop) (hw : Wp_X0_become cg cw cV eg ew eV Z) : zV l yX0_become wsX0_become ({ frames := 2, cells := 0, slots := 0, locals := 52 }) dC dI kI kA kC sz 0 0 [.ref co, .ref eo] ((kCake kI kA co ca cv cr cg cw cV) ++ (kCake kI kA eo ea ev er eg ew eV)) (fun (u : Int32 × (Nat → Int32) × (Nat → Nat → Int32)) => Z u.1 u.2.1 u.2.2) (fun (u : Int32 × (Nat → Int32) × (Nat → Nat → Int32)) => ((kCake kI kA co ca cv cr u.1 u.2.1 u.2.2) ++ (kCake kI kA eo ea ev er eg ew eV))) := by
  refine zV.of (cc := cX0_become) (maxL := 3) (by decide) rfl (Nat.le_of_ble_eq_true rfl) ?_
  intro p e s m args below meth c A Q C0 hret ls hl
  obtain ⟨hx, hb, hr, hml, hts, hown, hin, hP, hK, hD, hA, hS⟩ := C0
  have hown : s.vm.findClass RX0 = some m.cls := hown
  have hl : lv_has ls 3 [(0, .ref co), (1, .ref eo)] := hl
  unfold Wp_X0_become at hw
  refine lv_aload_n hx hb dX0_become_0 rfl (lv_at hl 0 rfl) ?_
  refine lv_aload_n hx hb dX0_become_1 rfl (lv_at hl 1 rfl) ?_
  refine va_get (D := (dC, dI)) (ci := 0) (v := .int eg) (C := RX0) (T := TX0) (N := 3) hx hb hts in_X0_become_X0 hown hK hP 7 rfl rfl 0 (by decide) (hts (.fieldLink RX0 9 "CakeMarks$Cake" "guests" "I") (List.mem_of_getElem? (i := 1) rfl)) (fun _ h9 => h9) rfl dX0_become_2 ?_
  refine va_put (D := (dC, dI)) (ci := 0) (v := .int eg) (ty := .int) (C := RX0) (T := TX0) (N := 3) hx hb hts in_X0_become_X0 tyX0 tyX0_ok nmX0 hown hK hP hD hS 0 rfl rfl 0 (by decide) (hts (.fieldLink RX0 9 "CakeMarks$Cake" "guests" "I") (List.mem_of_getElem? (i := 1) rfl)) (fun _ h9 => h9) rfl (by decide +kernel) rfl rfl (Nat.le_of_ble_eq_true rfl) dX0_become_5 (fun H locs hP hD hS => ?_)
  have hP : va_P (dC, dI) vwCl ((kCake kI kA co ca cv cr eg cw cV) ++ (kCake kI kA eo ea ev er eg ew eV)) H := hP
  have hD : va_D A ((kCake kI kA co ca cv cr eg cw cV) ++ (kCake kI kA eo ea ev er eg ew eV)) := hD
  refine lv_aload_n hx hb dX0_become_8 rfl (lv_at hl 0 rfl) ?_
  refine lv_aload_n hx hb dX0_become_9 rfl (lv_at hl 1 rfl) ?_
  refine va_get (D := (dC, dI)) (ci := 0) (v := .ref ea) (C := RX0) (T := TX0) (N := 3) hx hb hts in_X0_become_X0 hown hK hP 7 rfl rfl 1 (by decide) (hts (.fieldLink RX0 15 "CakeMarks$Cake" "owner" "[I") (List.mem_of_getElem? (i := 2) rfl)) (fun _ h9 => h9) rfl dX0_become_10 ?_
  refine zcallV (ci := 0) (q0 := 0) (As := [.ref ea]) (rest := []) (wr := ([(eo, .inr (0, [.int eg, .ref ea, .ref ev])), (ev, zr kA 4 er), (er 0, zi kI 24 (eV 0)), (er 1, zi kI 24 (eV 1)), (er 2, zi kI 24 (eV 2)), (er 3, zi kI 24 (eV 3))] : va_W)) (Wn := fun u => ((kCake kI kA co ca cv cr eg u cV) ++ (kCake kI kA eo ea ev er eg ew eV))) ⟨hx, hb, hml, hown, hts⟩ (c_X0_takeOwners l dC dI kI kA kC co ca cv cr ea _ eg cw cV ew _ hw) (cwV 1 hts gX0_become_X0_takeOwners rfl rfl rfl (by decide +kernel) ⟨Nat.le_of_ble_eq_true rfl, Nat.le_of_ble_eq_true rfl⟩) hK hP hD hS hA [0, 1, 2, 3, 4, 5, 6, 8] [7, 9, 10, 11, 12, 13] [6, 7, 8, 9, 10, 11, 12, 0, 13, 1, 2, 3, 4, 5] rfl rfl (by decide) (by decide) (by decide) (fun u => rfl) (by decide) rfl rfl rfl rfl hl.1 rfl (Nat.le_of_ble_eq_true rfl) dX0_become_13 ⟨Nat.zero_le _, Nat.zero_le _⟩ (fun cw_1 H locs hw hP hD hS => ?_)
  have hP : va_P (dC, dI) vwCl ((kCake kI kA co ca cv cr eg cw_1 cV) ++ (kCake kI kA eo ea ev er eg ew eV)) H := hP
  have hD : va_D A ((kCake kI kA co ca cv cr eg cw_1 cV) ++ (kCake kI kA eo ea ev er eg ew eV)) := hD
  refine lv_iconst (v := (0 : Int32)) hx hb dX0_become_16 (by decide) ?_
  refine lv_istore_n (lv' := [(2, .int (0 : Int32)), (0, .ref co), (1, .ref eo)]) hx hb dX0_become_17 rfl hl (by decide) rfl (fun ls hl => ?_)
  refine lv_iload_n hx hb dX0_become_18 rfl (lv_at hl 0 rfl) ?_
  refine lv_iconst (v := (4 : Int32)) hx hb dX0_become_19 (by decide) ?_
  refine lv_icmp_ge (tgt := 40) hx hb dX0_become_20 (by decide) (fun c_2 => absurd c_2 (by decide)) (fun c_2 => ?_)
  refine lv_aload_n hx hb dX0_become_23 rfl (lv_at hl 1 rfl) ?_
  refine lv_iload_n hx hb dX0_become_24 rfl (lv_at hl 0 rfl) ?_
  refine lv_aload_n hx hb dX0_become_25 rfl (lv_at hl 2 rfl) ?_
  refine va_get (D := (dC, dI)) (ci := 0) (v := .ref ev) (C := RX0) (T := TX0) (N := 3) hx hb hts in_X0_become_X0 hown hK hP 7 rfl rfl 2 (by decide) (hts (.fieldLink RX0 21 "CakeMarks$Cake" "values" "[[I") (List.mem_of_getElem? (i := 3) rfl)) (fun _ h9 => h9) rfl dX0_become_26 ?_
  refine lv_iload_n hx hb dX0_become_29 rfl (lv_at hl 0 rfl) ?_
  refine zald hx hb hK hP 9 1 rfl rfl rfl (i := (0 : Int32)) (j := 0) (show ¬ ((0 : Int32) < 0 ∨ 4 ≤ (0 : Int32).toNatClampNeg) by decide) (by decide) dX0_become_30 ?_
  refine zcallV (ci := 0) (q0 := 0) (As := [.int (0 : Int32), .ref (er 0)]) (rest := []) (wr := ([(eo, .inr (0, [.int eg, .ref ea, .ref ev])), (ea, zi kI 24 ew), (ev, zr kA 4 er), (er 1, zi kI 24 (eV 1)), (er 2, zi kI 24 (eV 2)), (er 3, zi kI 24 (eV 3))] : va_W)) (Wn := fun u => ((kCake kI kA co ca cv cr eg cw_1 u) ++ (kCake kI kA eo ea ev er eg ew eV))) ⟨hx, hb, hml, hown, hts⟩ (c_X0_takeValues l dC dI kI kA kC co ca cv cr (er 0) _ eg cw_1 cV (eV 0) (0 : Int32) _ hw) (cwV 2 hts gX0_become_X0_takeValues rfl rfl rfl (by decide +kernel) ⟨Nat.le_of_ble_eq_true rfl, Nat.le_of_ble_eq_true rfl⟩) hK hP hD hS hA [0, 1, 2, 3, 4, 5, 6, 10] [7, 8, 9, 11, 12, 13] [6, 7, 8, 9, 10, 11, 12, 0, 1, 2, 13, 3, 4, 5] rfl rfl (by decide) (by decide) (by decide) (fun u => rfl) (by decide) rfl rfl rfl rfl hl.1 rfl (Nat.le_of_ble_eq_true rfl) dX0_become_31 ⟨Nat.zero_le _, Nat.zero_le _⟩ (fun cV_3 H locs hw hP hD hS => ?_)
  have hP : va_P (dC, dI) vwCl ((kCake kI kA co ca cv cr eg cw_1 cV_3) ++ (kCake kI kA eo ea ev er eg ew eV)) H := hP
  have hD : va_D A ((kCake kI kA co ca cv cr eg cw_1 cV_3) ++ (kCake kI kA eo ea ev er eg ew eV)) := hD
  refine lv_iinc (v := (1 : Int32)) (lv' := [(2, .int (1 : Int32)), (0, .ref co), (1, .ref eo)]) hx hb dX0_become_34 hl (k := 0) rfl (by first | rfl | decide) (by decide) rfl (fun ls hl => ?_)
  refine lv_goto (tgt := 18) hx hb dX0_become_37 (by decide) ?_
  refine lv_iload_n hx hb dX0_become_18 rfl (lv_at hl 0 rfl) ?_
  refine lv_iconst (v := (4 : Int32)) hx hb dX0_become_19 (by decide) ?_
  refine lv_icmp_ge (tgt := 40) hx hb dX0_become_20 (by decide) (fun c_4 => absurd c_4 (by decide)) (fun c_4 => ?_)
  refine lv_aload_n hx hb dX0_become_23 rfl (lv_at hl 1 rfl) ?_
  refine lv_iload_n hx hb dX0_become_24 rfl (lv_at hl 0 rfl) ?_
  refine lv_aload_n hx hb dX0_become_25 rfl (lv_at hl 2 rfl) ?_
  refine va_get (D := (dC, dI)) (ci := 0) (v := .ref ev) (C := RX0) (T := TX0) (N := 3) hx hb hts in_X0_become_X0 hown hK hP 7 rfl rfl 2 (by decide) (hts (.fieldLink RX0 21 "CakeMarks$Cake" "values" "[[I") (List.mem_of_getElem? (i := 3) rfl)) (fun _ h9 => h9) rfl dX0_become_26 ?_
  refine lv_iload_n hx hb dX0_become_29 rfl (lv_at hl 0 rfl) ?_
  refine zald hx hb hK hP 9 1 rfl rfl rfl (i := (1 : Int32)) (j := 1) (show ¬ ((1 : Int32) < 0 ∨ 4 ≤ (1 : Int32).toNatClampNeg) by decide) (by decide) dX0_become_30 ?_
  refine zcallV (ci := 0) (q0 := 0) (As := [.int (1 : Int32), .ref (er 1)]) (rest := []) (wr := ([(eo, .inr (0, [.int eg, .ref ea, .ref ev])), (ea, zi kI 24 ew), (ev, zr kA 4 er), (er 0, zi kI 24 (eV 0)), (er 2, zi kI 24 (eV 2)), (er 3, zi kI 24 (eV 3))] : va_W)) (Wn := fun u => ((kCake kI kA co ca cv cr eg cw_1 u) ++ (kCake kI kA eo ea ev er eg ew eV))) ⟨hx, hb, hml, hown, hts⟩ (c_X0_takeValues l dC dI kI kA kC co ca cv cr (er 1) _ eg cw_1 cV_3 (eV 1) (1 : Int32) _ hw) (cwV 2 hts gX0_become_X0_takeValues rfl rfl rfl (by decide +kernel) ⟨Nat.le_of_ble_eq_true rfl, Nat.le_of_ble_eq_true rfl⟩) hK hP hD hS hA [0, 1, 2, 3, 4, 5, 6, 11] [7, 8, 9, 10, 12, 13] [6, 7, 8, 9, 10, 11, 12, 0, 1, 2, 3, 13, 4, 5] rfl rfl (by decide) (by decide) (by decide) (fun u => rfl) (by decide) rfl rfl rfl rfl hl.1 rfl (Nat.le_of_ble_eq_true rfl) dX0_become_31 ⟨Nat.zero_le _, Nat.zero_le _⟩ (fun cV_5 H locs hw hP hD hS => ?_)
  have hP : va_P (dC, dI) vwCl ((kCake kI kA co ca cv cr eg cw_1 cV_5) ++ (kCake kI kA eo ea ev er eg ew eV)) H := hP
  have hD : va_D A ((kCake kI kA co ca cv cr eg cw_1 cV_5) ++ (kCake kI kA eo ea ev er eg ew eV)) := hD
  refine lv_iinc (v := (2 : Int32)) (lv' := [(2, .int (2 : Int32)), (0, .ref co), (1, .ref eo)]) hx hb dX0_become_34 hl (k := 0) rfl (by first | rfl | decide) (by decide) rfl (fun ls hl => ?_)
  refine lv_goto (tgt := 18) hx hb dX0_become_37 (by decide) ?_
  refine lv_iload_n hx hb dX0_become_18 rfl (lv_at hl 0 rfl) ?_
  refine lv_iconst (v := (4 : Int32)) hx hb dX0_become_19 (by decide) ?_
  refine lv_icmp_ge (tgt := 40) hx hb dX0_become_20 (by decide) (fun c_6 => absurd c_6 (by decide)) (fun c_6 => ?_)
  refine lv_aload_n hx hb dX0_become_23 rfl (lv_at hl 1 rfl) ?_
  refine lv_iload_n hx hb dX0_become_24 rfl (lv_at hl 0 rfl) ?_
  refine lv_aload_n hx hb dX0_become_25 rfl (lv_at hl 2 rfl) ?_
  refine va_get (D := (dC, dI)) (ci := 0) (v := .ref ev) (C := RX0) (T := TX0) (N := 3) hx hb hts in_X0_become_X0 hown hK hP 7 rfl rfl 2 (by decide) (hts (.fieldLink RX0 21 "CakeMarks$Cake" "values" "[[I") (List.mem_of_getElem? (i := 3) rfl)) (fun _ h9 => h9) rfl dX0_become_26 ?_
  refine lv_iload_n hx hb dX0_become_29 rfl (lv_at hl 0 rfl) ?_
  refine zald hx hb hK hP 9 1 rfl rfl rfl (i := (2 : Int32)) (j := 2) (show ¬ ((2 : Int32) < 0 ∨ 4 ≤ (2 : Int32).toNatClampNeg) by decide) (by decide) dX0_become_30 ?_
  refine zcallV (ci := 0) (q0 := 0) (As := [.int (2 : Int32), .ref (er 2)]) (rest := []) (wr := ([(eo, .inr (0, [.int eg, .ref ea, .ref ev])), (ea, zi kI 24 ew), (ev, zr kA 4 er), (er 0, zi kI 24 (eV 0)), (er 1, zi kI 24 (eV 1)), (er 3, zi kI 24 (eV 3))] : va_W)) (Wn := fun u => ((kCake kI kA co ca cv cr eg cw_1 u) ++ (kCake kI kA eo ea ev er eg ew eV))) ⟨hx, hb, hml, hown, hts⟩ (c_X0_takeValues l dC dI kI kA kC co ca cv cr (er 2) _ eg cw_1 cV_5 (eV 2) (2 : Int32) _ hw) (cwV 2 hts gX0_become_X0_takeValues rfl rfl rfl (by decide +kernel) ⟨Nat.le_of_ble_eq_true rfl, Nat.le_of_ble_eq_true rfl⟩) hK hP hD hS hA [0, 1, 2, 3, 4, 5, 6, 12] [7, 8, 9, 10, 11, 13] [6, 7, 8, 9, 10, 11, 12, 0, 1, 2, 3, 4, 13, 5] rfl rfl (by decide) (by decide) (by decide) (fun u => rfl) (by decide) rfl rfl rfl rfl hl.1 rfl (Nat.le_of_ble_eq_true rfl) dX0_become_31 ⟨Nat.zero_le _, Nat.zero_le _⟩ (fun cV_7 H locs hw hP hD hS => ?_)
  have hP : va_P (dC, dI) vwCl ((kCake kI kA co ca cv cr eg cw_1 cV_7) ++ (kCake kI kA eo ea ev er eg ew eV)) H := hP
  have hD : va_D A ((kCake kI kA co ca cv cr eg cw_1 cV_7) ++ (kCake kI kA eo ea ev er eg ew eV)) := hD
  refine lv_iinc (v := (3 : Int32)) (lv' := [(2, .int (3 : Int32)), (0, .ref co), (1, .ref eo)]) hx hb dX0_become_34 hl (k := 0) rfl (by first | rfl | decide) (by decide) rfl (fun ls hl => ?_)
  refine lv_goto (tgt := 18) hx hb dX0_become_37 (by decide) ?_
  refine lv_iload_n hx hb dX0_become_18 rfl (lv_at hl 0 rfl) ?_
  refine lv_iconst (v := (4 : Int32)) hx hb dX0_become_19 (by decide) ?_
  refine lv_icmp_ge (tgt := 40) hx hb dX0_become_20 (by decide) (fun c_8 => absurd c_8 (by decide)) (fun c_8 => ?_)
  refine lv_aload_n hx hb dX0_become_23 rfl (lv_at hl 1 rfl) ?_
  refine lv_iload_n hx hb dX0_become_24 rfl (lv_at hl 0 rfl) ?_
  refine lv_aload_n hx hb dX0_become_25 rfl (lv_at hl 2 rfl) ?_
  refine va_get (D := (dC, dI)) (ci := 0) (v := .ref ev) (C := RX0) (T := TX0) (N := 3) hx hb hts in_X0_become_X0 hown hK hP 7 rfl rfl 2 (by decide) (hts (.fieldLink RX0 21 "CakeMarks$Cake" "values" "[[I") (List.mem_of_getElem? (i := 3) rfl)) (fun _ h9 => h9) rfl dX0_become_26 ?_
  refine lv_iload_n hx hb dX0_become_29 rfl (lv_at hl 0 rfl) ?_
  refine zald hx hb hK hP 9 1 rfl rfl rfl (i := (3 : Int32)) (j := 3) (show ¬ ((3 : Int32) < 0 ∨ 4 ≤ (3 : Int32).toNatClampNeg) by decide) (by decide) dX0_become_30 ?_
  refine zcallV (ci := 0) (q0 := 0) (As := [.int (3 : Int32), .ref (er 3)]) (rest := []) (wr := ([(eo, .inr (0, [.int eg, .ref ea, .ref ev])), (ea, zi kI 24 ew), (ev, zr kA 4 er), (er 0, zi kI 24 (eV 0)), (er 1, zi kI 24 (eV 1)), (er 2, zi kI 24 (eV 2))] : va_W)) (Wn := fun u => ((kCake kI kA co ca cv cr eg cw_1 u) ++ (kCake kI kA eo ea ev er eg ew eV))) ⟨hx, hb, hml, hown, hts⟩ (c_X0_takeValues l dC dI kI kA kC co ca cv cr (er 3) _ eg cw_1 cV_7 (eV 3) (3 : Int32) _ hw) (cwV 2 hts gX0_become_X0_takeValues rfl rfl rfl (by decide +kernel) ⟨Nat.le_of_ble_eq_true rfl, Nat.le_of_ble_eq_true rfl⟩) hK hP hD hS hA [0, 1, 2, 3, 4, 5, 6, 13] [7, 8, 9, 10, 11, 12] [6, 7, 8, 9, 10, 11, 12, 0, 1, 2, 3, 4, 5, 13] rfl rfl (by decide) (by decide) (by decide) (fun u => rfl) (by decide) rfl rfl rfl rfl hl.1 rfl (Nat.le_of_ble_eq_true rfl) dX0_become_31 ⟨Nat.zero_le _, Nat.zero_le _⟩ (fun cV_9 H locs hw hP hD hS => ?_)
  have hP : va_P (dC, dI) vwCl ((kCake kI kA co ca cv cr eg cw_1 cV_9) ++ (kCake kI kA eo ea ev er eg ew eV)) H := hP
  have hD : va_D A ((kCake kI kA co ca cv cr eg cw_1 cV_9) ++ (kCake kI kA eo ea ev er eg ew eV)) := hD
  refine lv_iinc (v := (4 : Int32)) (lv' := [(2, .int (4 : Int32)), (0, .ref co), (1, .ref eo)]) hx hb dX0_become_34 hl (k := 0) rfl (by first | rfl | decide) (by decide) rfl (fun ls hl => ?_)
  refine lv_goto (tgt := 18) hx hb dX0_become_37 (by decide) ?_
  refine lv_iload_n hx hb dX0_become_18 rfl (lv_at hl 0 rfl) ?_
  refine lv_iconst (v := (4 : Int32)) hx hb dX0_become_19 (by decide) ?_
  refine lv_icmp_ge (tgt := 40) hx hb dX0_become_20 (by decide) (fun c_10 => ?_) (fun c_10 => absurd c_10 (by decide))
  exact hret 40 (eg, cw_1, cV_9) _ _ _ hw hP hD hS dX0_become_40
-- CakeMarks$Cake.isGuest(I)Z
def Wp_X0_isGuest (cg : Int32) (a1 : Int32) (Z : Int32 → Prop) : Prop := ((a1 < (0 : Int32) → (Z (0 : Int32))) ∧ (¬ a1 < (0 : Int32) → ((cg ≤ a1 → (Z (0 : Int32))) ∧ (¬ cg ≤ a1 → (Z (1 : Int32))))))
theorem in_X0_isGuest_X0 : ∀ w ∈ u_ws RX0 TX0 3, w ∈ wsX0_isGuest := fun w h => List.mem_cons_of_mem _ (List.mem_append_right _ h)
set_option maxHeartbeats 20000000 in
set_option maxRecDepth 100000 in
theorem c_X0_isGuest (l : Launch) (dC : Nat → ClassId) (dI : Nat → Nat → Nat) (kI kA kC : ClassId) (co : Nat) (ca : Nat) (cv : Nat) (cr : Nat → Nat) (sz : Nat) (cg : Int32) (cw : Nat → Int32) (cV : Nat → Nat → Int32) (a1 : Int32) (Z : Int32 → Prop) (hw : Wp_X0_isGuest cg a1 Z) : zI l yX0_isGuest wsX0_isGuest ({ frames := 0, cells := 0, slots := 0, locals := 0 }) dC dI kI kA kC sz 0 0 [.ref co, .int a1] (kCake kI kA co ca cv cr cg cw cV) (fun (r : Int32) (u : Unit) => Z r ) (fun (u : Unit) => (kCake kI kA co ca cv cr cg cw cV)) := by
  refine zI.of (cc := cX0_isGuest) (maxL := 2) (ty := .boolean) (by decide) rfl (Nat.le_of_ble_eq_true rfl) (Or.inr rfl) ?_
  intro p e s m args below meth c A Q C0 hret ls hl
  obtain ⟨hx, hb, hr, hml, hts, hown, hin, hP, hK, hD, hA, hS⟩ := C0
  have hown : s.vm.findClass RX0 = some m.cls := hown
  have hl : lv_has ls 2 [(0, .ref co), (1, .int a1)] := hl
  unfold Wp_X0_isGuest at hw
  refine lv_iload_n hx hb dX0_isGuest_0 rfl (lv_at hl 1 rfl) ?_
  refine lv_if_lt (tgt := 16) hx hb dX0_isGuest_1 (by decide) (fun c_1 => ?_) (fun c_1 => ?_)
  · have hw := hw.1 c_1
    refine lv_iconst (v := (0 : Int32)) hx hb dX0_isGuest_16 (by decide) ?_
    exact hret 17 (0 : Int32) () _ _ _ (fun _ => rfl) hw hP hD hS dX0_isGuest_17
  · have hw := hw.2 c_1
    refine lv_iload_n hx hb dX0_isGuest_4 rfl (lv_at hl 1 rfl) ?_
    refine lv_aload_n hx hb dX0_isGuest_5 rfl (lv_at hl 0 rfl) ?_
    refine va_get (D := (dC, dI)) (ci := 0) (v := .int cg) (C := RX0) (T := TX0) (N := 3) hx hb hts in_X0_isGuest_X0 hown hK hP 0 rfl rfl 0 (by decide) (hts (.fieldLink RX0 9 "CakeMarks$Cake" "guests" "I") (List.mem_of_getElem? (i := 1) rfl)) (fun _ h9 => h9) rfl dX0_isGuest_6 ?_
    refine lv_icmp_ge (tgt := 16) hx hb dX0_isGuest_9 (by decide) (fun c_2 => ?_) (fun c_2 => ?_)
    · have hw := hw.1 c_2
      refine lv_iconst (v := (0 : Int32)) hx hb dX0_isGuest_16 (by decide) ?_
      exact hret 17 (0 : Int32) () _ _ _ (fun _ => rfl) hw hP hD hS dX0_isGuest_17
    · have hw := hw.2 c_2
      refine lv_iconst (v := (1 : Int32)) hx hb dX0_isGuest_12 (by decide) ?_
      refine lv_goto (tgt := 17) hx hb dX0_isGuest_13 (by decide) ?_
      exact hret 17 (1 : Int32) () _ _ _ (fun _ => rfl) hw hP hD hS dX0_isGuest_17
-- CakeMarks$Cake.setValues(IIII)V
def B_X0_setValues_3 (a1 : Int32) (a2 : Int32) (a3 : Int32) (a4 : Int32) (Z : (Nat → Nat → Int32) → Prop) (J3 : Int32 → (Nat → Nat → Int32) → Prop) (x5 : Int32) (cV : Nat → Nat → Int32) : Prop := ((a3 < x5 → (Z cV)) ∧ (¬ a3 < x5 → (vp_in a1 4 ∧ (vp_in x5 24 ∧ (J3 (x5 + (1 : Int32)) (va_up cV a1.toNatClampNeg (upd (cV a1.toNatClampNeg) x5.toNatClampNeg a4)))))))
def Wp_X0_setValues_3 (a1 : Int32) (a2 : Int32) (a3 : Int32) (a4 : Int32) (Z : (Nat → Nat → Int32) → Prop) (x5 : Int32) (cV : Nat → Nat → Int32) : Prop := ∀ (I3 : Int32 → (Nat → Nat → Int32) → Prop), (∀ (J3 : Int32 → (Nat → Nat → Int32) → Prop), (∀ (x5 : Int32) (cV : Nat → Nat → Int32), J3 x5 cV → I3 x5 cV) → ∀ (x5 : Int32) (cV : Nat → Nat → Int32), B_X0_setValues_3 a1 a2 a3 a4 Z J3 x5 cV → I3 x5 cV) → I3 x5 cV
theorem F_X0_setValues_3 (a1 : Int32) (a2 : Int32) (a3 : Int32) (a4 : Int32) (Z : (Nat → Nat → Int32) → Prop) (x5 : Int32) (cV : Nat → Nat → Int32) (h : B_X0_setValues_3 a1 a2 a3 a4 Z (Wp_X0_setValues_3 a1 a2 a3 a4 Z) x5 cV) : Wp_X0_setValues_3 a1 a2 a3 a4 Z x5 cV := fun I3 h3 => h3 _ (fun x5 cV hx => hx I3 h3) x5 cV h
def Wp_X0_setValues (cV : Nat → Nat → Int32) (a1 : Int32) (a2 : Int32) (a3 : Int32) (a4 : Int32) (Z : (Nat → Nat → Int32) → Prop) : Prop := ((Wp_X0_setValues_3 a1 a2 a3 a4 Z) a2 cV)
theorem in_X0_setValues_X0 : ∀ w ∈ u_ws RX0 TX0 3, w ∈ wsX0_setValues := fun w h => List.mem_cons_of_mem _ (List.mem_append_right _ h)
set_option maxHeartbeats 20000000 in
set_option maxRecDepth 100000 in
theorem c_X0_setValues (l : Launch) (dC : Nat → ClassId) (dI : Nat → Nat → Nat) (kI kA kC : ClassId) (co : Nat) (ca : Nat) (cv : Nat) (cr : Nat → Nat) (sz : Nat) (cg : Int32) (cw : Nat → Int32) (cV : Nat → Nat → Int32) (a1 : Int32) (a2 : Int32) (a3 : Int32) (a4 : Int32) (Z : (Nat → Nat → Int32) → Prop) (hw : Wp_X0_setValues cV a1 a2 a3 a4 Z) : zV l yX0_setValues wsX0_setValues ({ frames := 0, cells := 0, slots := 0, locals := 0 }) dC dI kI kA kC sz 0 0 [.ref co, .int a1, .int a2, .int a3, .int a4] (kCake kI kA co ca cv cr cg cw cV) (fun (u : (Nat → Nat → Int32)) => Z u) (fun (u : (Nat → Nat → Int32)) => (kCake kI kA co ca cv cr cg cw u)) := by
  refine zV.of (cc := cX0_setValues) (maxL := 6) (by decide) rfl (Nat.le_of_ble_eq_true rfl) ?_
  intro p e s m args below meth c A Q C0 hret ls hl
  obtain ⟨hx, hb, hr, hml, hts, hown, hin, hP, hK, hD, hA, hS⟩ := C0
  have hown : s.vm.findClass RX0 = some m.cls := hown
  have hl : lv_has ls 6 [(0, .ref co), (1, .int a1), (2, .int a2), (3, .int a3), (4, .int a4)] := hl
  have key : ∀ (J3 : Int32 → (Nat → Nat → Int32) → Prop) (hJ3 : ∀ (x5 : Int32) (cV : Nat → Nat → Int32), J3 x5 cV → ∀ (ls : Array Slot) (H : Heap) (locs : List Loc), lv_has ls 6 [(0, .ref co), (1, .int a1), (3, .int a3), (4, .int a4), (5, .int x5)] → va_P (dC, dI) vwCl (kCake kI kA co ca cv cr cg cw cV) H → va_D A (kCake kI kA co ca cv cr cg cw cV) → va_S A s.heap H locs → W p l e ({ frames := 0, cells := 0, slots := 0, locals := 0 }) s m args below meth c H locs 0 0 Q (F0 m 3 ls [])), (∀ (x5 : Int32) (cV : Nat → Nat → Int32), B_X0_setValues_3 a1 a2 a3 a4 Z J3 x5 cV → ∀ (ls : Array Slot) (H : Heap) (locs : List Loc), lv_has ls 6 [(0, .ref co), (1, .int a1), (3, .int a3), (4, .int a4), (5, .int x5)] → va_P (dC, dI) vwCl (kCake kI kA co ca cv cr cg cw cV) H → va_D A (kCake kI kA co ca cv cr cg cw cV) → va_S A s.heap H locs → W p l e ({ frames := 0, cells := 0, slots := 0, locals := 0 }) s m args below meth c H locs 0 0 Q (F0 m 3 ls [])) := by
    intro J3 hJ3
    · intro x5 cV hw ls H locs hl hP hD hS
      unfold B_X0_setValues_3 at hw
      refine lv_iload hx hb dX0_setValues_3 (lv_at hl 4 rfl) ?_
      refine lv_iload_n hx hb dX0_setValues_5 rfl (lv_at hl 2 rfl) ?_
      refine lv_icmp_gt (tgt := 26) hx hb dX0_setValues_6 (by decide) (fun c_1 => ?_) (fun c_1 => ?_)
      · have hw := hw.1 c_1
        exact hret 26 cV _ _ _ hw hP hD hS dX0_setValues_26
      · have hw := hw.2 c_1
        refine lv_aload_n hx hb dX0_setValues_9 rfl (lv_at hl 0 rfl) ?_
        refine va_get (D := (dC, dI)) (ci := 0) (v := .ref cv) (C := RX0) (T := TX0) (N := 3) hx hb hts in_X0_setValues_X0 hown hK hP 0 rfl rfl 2 (by decide) (hts (.fieldLink RX0 21 "CakeMarks$Cake" "values" "[[I") (List.mem_of_getElem? (i := 1) rfl)) (fun _ h9 => h9) rfl dX0_setValues_10 ?_
        refine lv_iload_n hx hb dX0_setValues_13 rfl (lv_at hl 1 rfl) ?_
        obtain ⟨h_2, hw⟩ := hw
        refine zald hx hb hK hP 2 1 rfl rfl rfl h_2 rfl dX0_setValues_14 ?_
        refine lv_iload hx hb dX0_setValues_15 (lv_at hl 4 rfl) ?_
        refine lv_iload hx hb dX0_setValues_17 (lv_at hl 3 rfl) ?_
        obtain ⟨h_3, hw⟩ := hw
        refine va_iast hx hb hK hP hD hS (3 + a1.toNatClampNeg) 0 (co_4 (P := fun g => (kCake kI kA co ca cv cr cg cw cV)[3 + g]? = some (cr g, zi kI 24 (cV g))) rfl rfl rfl rfl (z_lt h_2)) rfl h_3 dX0_setValues_19 (fun H locs hP hD hS => ?_)
        have e_4 := co_4 (P := fun g => List.set (kCake kI kA co ca cv cr cg cw cV) (3 + g) (cr g, zi kI 24 (upd (cV g) x5.toNatClampNeg a4)) = (kCake kI kA co ca cv cr cg cw (va_up cV g (upd (cV g) x5.toNatClampNeg a4)))) rfl rfl rfl rfl (z_lt h_2)
        have hP : va_P (dC, dI) vwCl (kCake kI kA co ca cv cr cg cw (va_up cV a1.toNatClampNeg (upd (cV a1.toNatClampNeg) x5.toNatClampNeg a4))) H := Eq.mp (congrArg (fun w => va_P (dC, dI) vwCl w H) e_4) hP
        have hD : va_D A (kCake kI kA co ca cv cr cg cw (va_up cV a1.toNatClampNeg (upd (cV a1.toNatClampNeg) x5.toNatClampNeg a4))) := Eq.mp (congrArg (fun w => va_D A w) e_4) hD
        refine lv_iinc (v := (x5 + (1 : Int32))) (lv' := [(5, .int (x5 + (1 : Int32))), (0, .ref co), (1, .int a1), (3, .int a3), (4, .int a4)]) hx hb dX0_setValues_20 hl (k := 4) rfl (by first | rfl | decide) (by decide) rfl (fun ls hl => ?_)
        refine lv_goto (tgt := 3) hx hb dX0_setValues_23 (by decide) ?_
        exact hJ3 (x5 + (1 : Int32)) (va_up cV a1.toNatClampNeg (upd (cV a1.toNatClampNeg) x5.toNatClampNeg a4)) hw ls _ _ (lv_sub hl [1, 2, 3, 4, 0] rfl) hP hD hS
  have hJ3 : ∀ (x5 : Int32) (cV : Nat → Nat → Int32), Wp_X0_setValues_3 a1 a2 a3 a4 Z x5 cV → ∀ (ls : Array Slot) (H : Heap) (locs : List Loc), lv_has ls 6 [(0, .ref co), (1, .int a1), (3, .int a3), (4, .int a4), (5, .int x5)] → va_P (dC, dI) vwCl (kCake kI kA co ca cv cr cg cw cV) H → va_D A (kCake kI kA co ca cv cr cg cw cV) → va_S A s.heap H locs → W p l e ({ frames := 0, cells := 0, slots := 0, locals := 0 }) s m args below meth c H locs 0 0 Q (F0 m 3 ls []) := fun x5 cV hv => hv (fun x5 cV => ∀ (ls : Array Slot) (H : Heap) (locs : List Loc), lv_has ls 6 [(0, .ref co), (1, .int a1), (3, .int a3), (4, .int a4), (5, .int x5)] → va_P (dC, dI) vwCl (kCake kI kA co ca cv cr cg cw cV) H → va_D A (kCake kI kA co ca cv cr cg cw cV) → va_S A s.heap H locs → W p l e ({ frames := 0, cells := 0, slots := 0, locals := 0 }) s m args below meth c H locs 0 0 Q (F0 m 3 ls [])) (fun J3 q3 => (key J3 q3))
  unfold Wp_X0_setValues at hw
  refine lv_iload_n hx hb dX0_setValues_0 rfl (lv_at hl 2 rfl) ?_
  refine lv_istore (lv' := [(5, .int a2), (0, .ref co), (1, .int a1), (2, .int a2), (3, .int a3), (4, .int a4)]) hx hb dX0_setValues_1 hl (by decide) rfl (fun ls hl => ?_)
  exact hJ3 a2 cV hw ls _ _ (lv_sub hl [1, 2, 4, 5, 0] rfl) hP hD hS
-- CakeMarks$Cake.seatGuest()I
def Wp_X0_seatGuest (cg : Int32) (cV : Nat → Nat → Int32) (Z : Int32 → Int32 → (Nat → Nat → Int32) → Prop) : Prop := (Wp_X0_setValues cV cg (0 : Int32) (23 : Int32) (1 : Int32) (fun cV_1 => (Z cg (cg + (1 : Int32)) cV_1)))
theorem in_X0_seatGuest_X0 : ∀ w ∈ u_ws RX0 TX0 3, w ∈ wsX0_seatGuest := fun w h => List.mem_cons_of_mem _ (List.mem_append_right _ h)
set_option maxHeartbeats 20000000 in
set_option maxRecDepth 100000 in
theorem c_X0_seatGuest (l : Launch) (dC : Nat → ClassId) (dI : Nat → Nat → Nat) (kI kA kC : ClassId) (co : Nat) (ca : Nat) (cv : Nat) (cr : Nat → Nat) (sz : Nat) (cg : Int32) (cw : Nat → Int32) (cV : Nat → Nat → Int32) (Z : Int32 → Int32 → (Nat → Nat → Int32) → Prop) (hw : Wp_X0_seatGuest cg cV Z) : zI l yX0_seatGuest wsX0_seatGuest ({ frames := 1, cells := 0, slots := 0, locals := 25 }) dC dI kI kA kC sz 0 0 [.ref co] (kCake kI kA co ca cv cr cg cw cV) (fun (r : Int32) (u : Int32 × (Nat → Nat → Int32)) => Z r u.1 u.2) (fun (u : Int32 × (Nat → Nat → Int32)) => (kCake kI kA co ca cv cr u.1 cw u.2)) := by
  refine zI.of (cc := cX0_seatGuest) (maxL := 2) (ty := .int) (by decide) rfl (Nat.le_of_ble_eq_true rfl) (Or.inl rfl) ?_
  intro p e s m args below meth c A Q C0 hret ls hl
  obtain ⟨hx, hb, hr, hml, hts, hown, hin, hP, hK, hD, hA, hS⟩ := C0
  have hown : s.vm.findClass RX0 = some m.cls := hown
  have hl : lv_has ls 2 [(0, .ref co)] := hl
  unfold Wp_X0_seatGuest at hw
  refine lv_aload_n hx hb dX0_seatGuest_0 rfl (lv_at hl 0 rfl) ?_
  refine va_get (D := (dC, dI)) (ci := 0) (v := .int cg) (C := RX0) (T := TX0) (N := 3) hx hb hts in_X0_seatGuest_X0 hown hK hP 0 rfl rfl 0 (by decide) (hts (.fieldLink RX0 9 "CakeMarks$Cake" "guests" "I") (List.mem_of_getElem? (i := 1) rfl)) (fun _ h9 => h9) rfl dX0_seatGuest_1 ?_
  refine lv_istore_n (lv' := [(1, .int cg), (0, .ref co)]) hx hb dX0_seatGuest_4 rfl hl (by decide) rfl (fun ls hl => ?_)
  refine lv_aload_n hx hb dX0_seatGuest_5 rfl (lv_at hl 1 rfl) ?_
  refine lv_dup hx hb dX0_seatGuest_6 rfl ?_
  refine va_get (D := (dC, dI)) (ci := 0) (v := .int cg) (C := RX0) (T := TX0) (N := 3) hx hb hts in_X0_seatGuest_X0 hown hK hP 0 rfl rfl 0 (by decide) (hts (.fieldLink RX0 9 "CakeMarks$Cake" "guests" "I") (List.mem_of_getElem? (i := 1) rfl)) (fun _ h9 => h9) rfl dX0_seatGuest_7 ?_
  refine lv_iconst (v := (1 : Int32)) hx hb dX0_seatGuest_10 (by decide) ?_
  refine lv_iadd hx hb dX0_seatGuest_11 ?_
  refine va_put (D := (dC, dI)) (ci := 0) (v := .int (cg + (1 : Int32))) (ty := .int) (C := RX0) (T := TX0) (N := 3) hx hb hts in_X0_seatGuest_X0 tyX0 tyX0_ok nmX0 hown hK hP hD hS 0 rfl rfl 0 (by decide) (hts (.fieldLink RX0 9 "CakeMarks$Cake" "guests" "I") (List.mem_of_getElem? (i := 1) rfl)) (fun _ h9 => h9) rfl (by decide +kernel) rfl rfl (Nat.le_of_ble_eq_true rfl) dX0_seatGuest_12 (fun H locs hP hD hS => ?_)
  have hP : va_P (dC, dI) vwCl (kCake kI kA co ca cv cr (cg + (1 : Int32)) cw cV) H := hP
  have hD : va_D A (kCake kI kA co ca cv cr (cg + (1 : Int32)) cw cV) := hD
  refine lv_aload_n hx hb dX0_seatGuest_15 rfl (lv_at hl 1 rfl) ?_
  refine lv_iload_n hx hb dX0_seatGuest_16 rfl (lv_at hl 0 rfl) ?_
  refine lv_iconst (v := (0 : Int32)) hx hb dX0_seatGuest_17 (by decide) ?_
  refine lv_bipush (v := (23 : Int32)) hx hb dX0_seatGuest_18 (by decide) ?_
  refine lv_iconst (v := (1 : Int32)) hx hb dX0_seatGuest_20 (by decide) ?_
  refine zcallV (ci := 0) (q0 := 0) (As := [.int cg, .int (0 : Int32), .int (23 : Int32), .int (1 : Int32)]) (rest := []) (wr := ([] : va_W)) (Wn := fun u => (kCake kI kA co ca cv cr (cg + (1 : Int32)) cw u)) ⟨hx, hb, hml, hown, hts⟩ (c_X0_setValues l dC dI kI kA kC co ca cv cr _ (cg + (1 : Int32)) cw cV cg (0 : Int32) (23 : Int32) (1 : Int32) _ hw) (cwV 4 hts gX0_seatGuest_X0_setValues rfl rfl rfl (by decide +kernel) ⟨Nat.le_of_ble_eq_true rfl, Nat.le_of_ble_eq_true rfl⟩) hK hP hD hS hA [0, 1, 2, 3, 4, 5, 6] [] [0, 1, 2, 3, 4, 5, 6] rfl rfl (by decide) (by decide) (by decide) (fun u => rfl) (by decide) rfl rfl rfl rfl hl.1 rfl (Nat.le_of_ble_eq_true rfl) dX0_seatGuest_21 ⟨Nat.zero_le _, Nat.zero_le _⟩ (fun cV_1 H locs hw hP hD hS => ?_)
  have hP : va_P (dC, dI) vwCl (kCake kI kA co ca cv cr (cg + (1 : Int32)) cw cV_1) H := hP
  have hD : va_D A (kCake kI kA co ca cv cr (cg + (1 : Int32)) cw cV_1) := hD
  refine lv_iload_n hx hb dX0_seatGuest_24 rfl (lv_at hl 0 rfl) ?_
  exact hret 25 cg ((cg + (1 : Int32)), cV_1) _ _ _ (fun h => absurd h (by decide)) hw hP hD hS dX0_seatGuest_25
-- CakeMarks$Cake.spanWorth(III)I
def B_X0_spanWorth_6 (cV : Nat → Nat → Int32) (a1 : Int32) (a2 : Int32) (a3 : Int32) (Z : Int32 → Prop) (J6 : Int32 → Int32 → Prop) (x4 : Int32) (x5 : Int32) : Prop := ((a3 < x5 → (Z x4)) ∧ (¬ a3 < x5 → (vp_in a1 4 ∧ (vp_in x5 24 ∧ (J6 (x4 + (cV a1.toNatClampNeg x5.toNatClampNeg)) (x5 + (1 : Int32)))))))
def Wp_X0_spanWorth_6 (cV : Nat → Nat → Int32) (a1 : Int32) (a2 : Int32) (a3 : Int32) (Z : Int32 → Prop) (x4 : Int32) (x5 : Int32) : Prop := ∀ (I6 : Int32 → Int32 → Prop), (∀ (J6 : Int32 → Int32 → Prop), (∀ (x4 : Int32) (x5 : Int32), J6 x4 x5 → I6 x4 x5) → ∀ (x4 : Int32) (x5 : Int32), B_X0_spanWorth_6 cV a1 a2 a3 Z J6 x4 x5 → I6 x4 x5) → I6 x4 x5
theorem F_X0_spanWorth_6 (cV : Nat → Nat → Int32) (a1 : Int32) (a2 : Int32) (a3 : Int32) (Z : Int32 → Prop) (x4 : Int32) (x5 : Int32) (h : B_X0_spanWorth_6 cV a1 a2 a3 Z (Wp_X0_spanWorth_6 cV a1 a2 a3 Z) x4 x5) : Wp_X0_spanWorth_6 cV a1 a2 a3 Z x4 x5 := fun I6 h6 => h6 _ (fun x4 x5 hx => hx I6 h6) x4 x5 h
def Wp_X0_spanWorth (cV : Nat → Nat → Int32) (a1 : Int32) (a2 : Int32) (a3 : Int32) (Z : Int32 → Prop) : Prop := ((Wp_X0_spanWorth_6 cV a1 a2 a3 Z) (0 : Int32) a2)
theorem in_X0_spanWorth_X0 : ∀ w ∈ u_ws RX0 TX0 3, w ∈ wsX0_spanWorth := fun w h => List.mem_cons_of_mem _ (List.mem_append_right _ h)
set_option maxHeartbeats 20000000 in
set_option maxRecDepth 100000 in
theorem c_X0_spanWorth (l : Launch) (dC : Nat → ClassId) (dI : Nat → Nat → Nat) (kI kA kC : ClassId) (co : Nat) (ca : Nat) (cv : Nat) (cr : Nat → Nat) (sz : Nat) (cg : Int32) (cw : Nat → Int32) (cV : Nat → Nat → Int32) (a1 : Int32) (a2 : Int32) (a3 : Int32) (Z : Int32 → Prop) (hw : Wp_X0_spanWorth cV a1 a2 a3 Z) : zI l yX0_spanWorth wsX0_spanWorth ({ frames := 0, cells := 0, slots := 0, locals := 0 }) dC dI kI kA kC sz 0 0 [.ref co, .int a1, .int a2, .int a3] (kCake kI kA co ca cv cr cg cw cV) (fun (r : Int32) (u : Unit) => Z r ) (fun (u : Unit) => (kCake kI kA co ca cv cr cg cw cV)) := by
  refine zI.of (cc := cX0_spanWorth) (maxL := 6) (ty := .int) (by decide) rfl (Nat.le_of_ble_eq_true rfl) (Or.inl rfl) ?_
  intro p e s m args below meth c A Q C0 hret ls hl
  obtain ⟨hx, hb, hr, hml, hts, hown, hin, hP, hK, hD, hA, hS⟩ := C0
  have hown : s.vm.findClass RX0 = some m.cls := hown
  have hl : lv_has ls 6 [(0, .ref co), (1, .int a1), (2, .int a2), (3, .int a3)] := hl
  have key : ∀ (J6 : Int32 → Int32 → Prop) (hJ6 : ∀ (x4 : Int32) (x5 : Int32), J6 x4 x5 → ∀ (ls : Array Slot) (H : Heap) (locs : List Loc), lv_has ls 6 [(0, .ref co), (1, .int a1), (3, .int a3), (4, .int x4), (5, .int x5)] → va_P (dC, dI) vwCl (kCake kI kA co ca cv cr cg cw cV) H → va_D A (kCake kI kA co ca cv cr cg cw cV) → va_S A s.heap H locs → W p l e ({ frames := 0, cells := 0, slots := 0, locals := 0 }) s m args below meth c H locs 0 0 Q (F0 m 6 ls [])), (∀ (x4 : Int32) (x5 : Int32), B_X0_spanWorth_6 cV a1 a2 a3 Z J6 x4 x5 → ∀ (ls : Array Slot) (H : Heap) (locs : List Loc), lv_has ls 6 [(0, .ref co), (1, .int a1), (3, .int a3), (4, .int x4), (5, .int x5)] → va_P (dC, dI) vwCl (kCake kI kA co ca cv cr cg cw cV) H → va_D A (kCake kI kA co ca cv cr cg cw cV) → va_S A s.heap H locs → W p l e ({ frames := 0, cells := 0, slots := 0, locals := 0 }) s m args below meth c H locs 0 0 Q (F0 m 6 ls [])) := by
    intro J6 hJ6
    · intro x4 x5 hw ls H locs hl hP hD hS
      unfold B_X0_spanWorth_6 at hw
      refine lv_iload hx hb dX0_spanWorth_6 (lv_at hl 4 rfl) ?_
      refine lv_iload_n hx hb dX0_spanWorth_8 rfl (lv_at hl 2 rfl) ?_
      refine lv_icmp_gt (tgt := 32) hx hb dX0_spanWorth_9 (by decide) (fun c_1 => ?_) (fun c_1 => ?_)
      · have hw := hw.1 c_1
        refine lv_iload hx hb dX0_spanWorth_32 (lv_at hl 3 rfl) ?_
        exact hret 34 x4 () _ _ _ (fun h => absurd h (by decide)) hw hP hD hS dX0_spanWorth_34
      · have hw := hw.2 c_1
        refine lv_iload hx hb dX0_spanWorth_12 (lv_at hl 3 rfl) ?_
        refine lv_aload_n hx hb dX0_spanWorth_14 rfl (lv_at hl 0 rfl) ?_
        refine va_get (D := (dC, dI)) (ci := 0) (v := .ref cv) (C := RX0) (T := TX0) (N := 3) hx hb hts in_X0_spanWorth_X0 hown hK hP 0 rfl rfl 2 (by decide) (hts (.fieldLink RX0 21 "CakeMarks$Cake" "values" "[[I") (List.mem_of_getElem? (i := 1) rfl)) (fun _ h9 => h9) rfl dX0_spanWorth_15 ?_
        refine lv_iload_n hx hb dX0_spanWorth_18 rfl (lv_at hl 1 rfl) ?_
        obtain ⟨h_2, hw⟩ := hw
        refine zald hx hb hK hP 2 1 rfl rfl rfl h_2 rfl dX0_spanWorth_19 ?_
        refine lv_iload hx hb dX0_spanWorth_20 (lv_at hl 4 rfl) ?_
        obtain ⟨h_3, hw⟩ := hw
        refine va_iald hx hb hK hP (3 + a1.toNatClampNeg) 0 (co_4 (P := fun g => (kCake kI kA co ca cv cr cg cw cV)[3 + g]? = some (cr g, zi kI 24 (cV g))) rfl rfl rfl rfl (z_lt h_2)) rfl h_3 dX0_spanWorth_22 ?_
        refine lv_iadd hx hb dX0_spanWorth_23 ?_
        refine lv_istore (lv' := [(4, .int (x4 + (cV a1.toNatClampNeg x5.toNatClampNeg))), (0, .ref co), (1, .int a1), (3, .int a3), (5, .int x5)]) hx hb dX0_spanWorth_24 hl (by decide) rfl (fun ls hl => ?_)
        refine lv_iinc (v := (x5 + (1 : Int32))) (lv' := [(5, .int (x5 + (1 : Int32))), (4, .int (x4 + (cV a1.toNatClampNeg x5.toNatClampNeg))), (0, .ref co), (1, .int a1), (3, .int a3)]) hx hb dX0_spanWorth_26 hl (k := 4) rfl (by first | rfl | decide) (by decide) rfl (fun ls hl => ?_)
        refine lv_goto (tgt := 6) hx hb dX0_spanWorth_29 (by decide) ?_
        exact hJ6 (x4 + (cV a1.toNatClampNeg x5.toNatClampNeg)) (x5 + (1 : Int32)) hw ls _ _ (lv_sub hl [2, 3, 4, 1, 0] rfl) hP hD hS
  have hJ6 : ∀ (x4 : Int32) (x5 : Int32), Wp_X0_spanWorth_6 cV a1 a2 a3 Z x4 x5 → ∀ (ls : Array Slot) (H : Heap) (locs : List Loc), lv_has ls 6 [(0, .ref co), (1, .int a1), (3, .int a3), (4, .int x4), (5, .int x5)] → va_P (dC, dI) vwCl (kCake kI kA co ca cv cr cg cw cV) H → va_D A (kCake kI kA co ca cv cr cg cw cV) → va_S A s.heap H locs → W p l e ({ frames := 0, cells := 0, slots := 0, locals := 0 }) s m args below meth c H locs 0 0 Q (F0 m 6 ls []) := fun x4 x5 hv => hv (fun x4 x5 => ∀ (ls : Array Slot) (H : Heap) (locs : List Loc), lv_has ls 6 [(0, .ref co), (1, .int a1), (3, .int a3), (4, .int x4), (5, .int x5)] → va_P (dC, dI) vwCl (kCake kI kA co ca cv cr cg cw cV) H → va_D A (kCake kI kA co ca cv cr cg cw cV) → va_S A s.heap H locs → W p l e ({ frames := 0, cells := 0, slots := 0, locals := 0 }) s m args below meth c H locs 0 0 Q (F0 m 6 ls [])) (fun J6 q6 => (key J6 q6))
  unfold Wp_X0_spanWorth at hw
  refine lv_iconst (v := (0 : Int32)) hx hb dX0_spanWorth_0 (by decide) ?_
  refine lv_istore (lv' := [(4, .int (0 : Int32)), (0, .ref co), (1, .int a1), (2, .int a2), (3, .int a3)]) hx hb dX0_spanWorth_1 hl (by decide) rfl (fun ls hl => ?_)
  refine lv_iload_n hx hb dX0_spanWorth_3 rfl (lv_at hl 3 rfl) ?_
  refine lv_istore (lv' := [(5, .int a2), (4, .int (0 : Int32)), (0, .ref co), (1, .int a1), (2, .int a2), (3, .int a3)]) hx hb dX0_spanWorth_4 hl (by decide) rfl (fun ls hl => ?_)
  exact hJ6 (0 : Int32) a2 hw ls _ _ (lv_sub hl [2, 3, 5, 1, 0] rfl) hP hD hS
-- CakeMarks$Cake.total(I)I
def Wp_X0_total (cV : Nat → Nat → Int32) (a1 : Int32) (Z : Int32 → Prop) : Prop := (Wp_X0_spanWorth cV a1 (0 : Int32) (23 : Int32) (fun r_1 => (Z r_1)))
set_option maxHeartbeats 20000000 in
set_option maxRecDepth 100000 in
theorem c_X0_total (l : Launch) (dC : Nat → ClassId) (dI : Nat → Nat → Nat) (kI kA kC : ClassId) (co : Nat) (ca : Nat) (cv : Nat) (cr : Nat → Nat) (sz : Nat) (cg : Int32) (cw : Nat → Int32) (cV : Nat → Nat → Int32) (a1 : Int32) (Z : Int32 → Prop) (hw : Wp_X0_total cV a1 Z) : zI l yX0_total wsX0_total ({ frames := 1, cells := 0, slots := 0, locals := 25 }) dC dI kI kA kC sz 0 0 [.ref co, .int a1] (kCake kI kA co ca cv cr cg cw cV) (fun (r : Int32) (u : Unit) => Z r ) (fun (u : Unit) => (kCake kI kA co ca cv cr cg cw cV)) := by
  refine zI.of (cc := cX0_total) (maxL := 2) (ty := .int) (by decide) rfl (Nat.le_of_ble_eq_true rfl) (Or.inl rfl) ?_
  intro p e s m args below meth c A Q C0 hret ls hl
  obtain ⟨hx, hb, hr, hml, hts, hown, hin, hP, hK, hD, hA, hS⟩ := C0
  have hown : s.vm.findClass RX0 = some m.cls := hown
  have hl : lv_has ls 2 [(0, .ref co), (1, .int a1)] := hl
  unfold Wp_X0_total at hw
  refine lv_aload_n hx hb dX0_total_0 rfl (lv_at hl 0 rfl) ?_
  refine lv_iload_n hx hb dX0_total_1 rfl (lv_at hl 1 rfl) ?_
  refine lv_iconst (v := (0 : Int32)) hx hb dX0_total_2 (by decide) ?_
  refine lv_bipush (v := (23 : Int32)) hx hb dX0_total_3 (by decide) ?_
  refine zcallI (ci := 0) (q0 := 0) (As := [.int a1, .int (0 : Int32), .int (23 : Int32)]) (rest := []) (wr := ([] : va_W)) (Wn := fun u => (kCake kI kA co ca cv cr cg cw cV)) ⟨hx, hb, hml, hown, hts⟩ (c_X0_spanWorth l dC dI kI kA kC co ca cv cr _ cg cw cV a1 (0 : Int32) (23 : Int32) _ hw) (cwV 3 hts gX0_total_X0_spanWorth rfl rfl rfl (by decide +kernel) ⟨Nat.le_of_ble_eq_true rfl, Nat.le_of_ble_eq_true rfl⟩) hK hP hD hS hA [0, 1, 2, 3, 4, 5, 6] [] [0, 1, 2, 3, 4, 5, 6] rfl rfl (by decide) (by decide) (by decide) (fun u => rfl) (by decide) rfl rfl rfl rfl hl.1 rfl (Nat.le_of_ble_eq_true rfl) dX0_total_5 ⟨Nat.zero_le _, Nat.zero_le _⟩ (fun r_1 u H locs hw hP hD hS => ?_)
  have hP : va_P (dC, dI) vwCl (kCake kI kA co ca cv cr cg cw cV) H := hP
  have hD : va_D A (kCake kI kA co ca cv cr cg cw cV) := hD
  exact hret 8 r_1 () _ _ _ (fun h => absurd h (by decide)) hw hP hD hS dX0_total_8
-- CakeMarks$Cake.worthWithin(IIII)I
def B_X0_worthWithin_6 (cw : Nat → Int32) (cV : Nat → Nat → Int32) (a1 : Int32) (a2 : Int32) (a3 : Int32) (a4 : Int32) (Z : Int32 → Prop) (J6 : Int32 → Int32 → Prop) (x5 : Int32) (x6 : Int32) : Prop := ((a4 < x6 → (Z x5)) ∧ (¬ a4 < x6 → (vp_in x6 24 ∧ ((¬ (cw x6.toNatClampNeg) = a2 → (J6 x5 (x6 + (1 : Int32)))) ∧ ((cw x6.toNatClampNeg) = a2 → (vp_in a1 4 ∧ (J6 (x5 + (cV a1.toNatClampNeg x6.toNatClampNeg)) (x6 + (1 : Int32)))))))))
def Wp_X0_worthWithin_6 (cw : Nat → Int32) (cV : Nat → Nat → Int32) (a1 : Int32) (a2 : Int32) (a3 : Int32) (a4 : Int32) (Z : Int32 → Prop) (x5 : Int32) (x6 : Int32) : Prop := ∀ (I6 : Int32 → Int32 → Prop), (∀ (J6 : Int32 → Int32 → Prop), (∀ (x5 : Int32) (x6 : Int32), J6 x5 x6 → I6 x5 x6) → ∀ (x5 : Int32) (x6 : Int32), B_X0_worthWithin_6 cw cV a1 a2 a3 a4 Z J6 x5 x6 → I6 x5 x6) → I6 x5 x6
theorem F_X0_worthWithin_6 (cw : Nat → Int32) (cV : Nat → Nat → Int32) (a1 : Int32) (a2 : Int32) (a3 : Int32) (a4 : Int32) (Z : Int32 → Prop) (x5 : Int32) (x6 : Int32) (h : B_X0_worthWithin_6 cw cV a1 a2 a3 a4 Z (Wp_X0_worthWithin_6 cw cV a1 a2 a3 a4 Z) x5 x6) : Wp_X0_worthWithin_6 cw cV a1 a2 a3 a4 Z x5 x6 := fun I6 h6 => h6 _ (fun x5 x6 hx => hx I6 h6) x5 x6 h
def Wp_X0_worthWithin (cw : Nat → Int32) (cV : Nat → Nat → Int32) (a1 : Int32) (a2 : Int32) (a3 : Int32) (a4 : Int32) (Z : Int32 → Prop) : Prop := ((Wp_X0_worthWithin_6 cw cV a1 a2 a3 a4 Z) (0 : Int32) a3)
theorem in_X0_worthWithin_X0 : ∀ w ∈ u_ws RX0 TX0 3, w ∈ wsX0_worthWithin := fun w h => List.mem_cons_of_mem _ (List.mem_append_right _ h)
set_option maxHeartbeats 20000000 in
set_option maxRecDepth 100000 in
theorem c_X0_worthWithin (l : Launch) (dC : Nat → ClassId) (dI : Nat → Nat → Nat) (kI kA kC : ClassId) (co : Nat) (ca : Nat) (cv : Nat) (cr : Nat → Nat) (sz : Nat) (cg : Int32) (cw : Nat → Int32) (cV : Nat → Nat → Int32) (a1 : Int32) (a2 : Int32) (a3 : Int32) (a4 : Int32) (Z : Int32 → Prop) (hw : Wp_X0_worthWithin cw cV a1 a2 a3 a4 Z) : zI l yX0_worthWithin wsX0_worthWithin ({ frames := 0, cells := 0, slots := 0, locals := 0 }) dC dI kI kA kC sz 0 0 [.ref co, .int a1, .int a2, .int a3, .int a4] (kCake kI kA co ca cv cr cg cw cV) (fun (r : Int32) (u : Unit) => Z r ) (fun (u : Unit) => (kCake kI kA co ca cv cr cg cw cV)) := by
  refine zI.of (cc := cX0_worthWithin) (maxL := 7) (ty := .int) (by decide) rfl (Nat.le_of_ble_eq_true rfl) (Or.inl rfl) ?_
  intro p e s m args below meth c A Q C0 hret ls hl
  obtain ⟨hx, hb, hr, hml, hts, hown, hin, hP, hK, hD, hA, hS⟩ := C0
  have hown : s.vm.findClass RX0 = some m.cls := hown
  have hl : lv_has ls 7 [(0, .ref co), (1, .int a1), (2, .int a2), (3, .int a3), (4, .int a4)] := hl
  have key : ∀ (J6 : Int32 → Int32 → Prop) (hJ6 : ∀ (x5 : Int32) (x6 : Int32), J6 x5 x6 → ∀ (ls : Array Slot) (H : Heap) (locs : List Loc), lv_has ls 7 [(0, .ref co), (1, .int a1), (2, .int a2), (4, .int a4), (5, .int x5), (6, .int x6)] → va_P (dC, dI) vwCl (kCake kI kA co ca cv cr cg cw cV) H → va_D A (kCake kI kA co ca cv cr cg cw cV) → va_S A s.heap H locs → W p l e ({ frames := 0, cells := 0, slots := 0, locals := 0 }) s m args below meth c H locs 0 0 Q (F0 m 6 ls [])), (∀ (x5 : Int32) (x6 : Int32), B_X0_worthWithin_6 cw cV a1 a2 a3 a4 Z J6 x5 x6 → ∀ (ls : Array Slot) (H : Heap) (locs : List Loc), lv_has ls 7 [(0, .ref co), (1, .int a1), (2, .int a2), (4, .int a4), (5, .int x5), (6, .int x6)] → va_P (dC, dI) vwCl (kCake kI kA co ca cv cr cg cw cV) H → va_D A (kCake kI kA co ca cv cr cg cw cV) → va_S A s.heap H locs → W p l e ({ frames := 0, cells := 0, slots := 0, locals := 0 }) s m args below meth c H locs 0 0 Q (F0 m 6 ls [])) := by
    intro J6 hJ6
    · intro x5 x6 hw ls H locs hl hP hD hS
      unfold B_X0_worthWithin_6 at hw
      refine lv_iload hx hb dX0_worthWithin_6 (lv_at hl 5 rfl) ?_
      refine lv_iload hx hb dX0_worthWithin_8 (lv_at hl 3 rfl) ?_
      refine lv_icmp_gt (tgt := 44) hx hb dX0_worthWithin_10 (by decide) (fun c_1 => ?_) (fun c_1 => ?_)
      · have hw := hw.1 c_1
        refine lv_iload hx hb dX0_worthWithin_44 (lv_at hl 4 rfl) ?_
        exact hret 46 x5 () _ _ _ (fun h => absurd h (by decide)) hw hP hD hS dX0_worthWithin_46
      · have hw := hw.2 c_1
        refine lv_aload_n hx hb dX0_worthWithin_13 rfl (lv_at hl 0 rfl) ?_
        refine va_get (D := (dC, dI)) (ci := 0) (v := .ref ca) (C := RX0) (T := TX0) (N := 3) hx hb hts in_X0_worthWithin_X0 hown hK hP 0 rfl rfl 1 (by decide) (hts (.fieldLink RX0 15 "CakeMarks$Cake" "owner" "[I") (List.mem_of_getElem? (i := 1) rfl)) (fun _ h9 => h9) rfl dX0_worthWithin_14 ?_
        refine lv_iload hx hb dX0_worthWithin_17 (lv_at hl 5 rfl) ?_
        obtain ⟨h_2, hw⟩ := hw
        refine va_iald hx hb hK hP 1 0 rfl rfl h_2 dX0_worthWithin_19 ?_
        refine lv_iload_n hx hb dX0_worthWithin_20 rfl (lv_at hl 2 rfl) ?_
        refine lv_icmp_ne (tgt := 38) hx hb dX0_worthWithin_21 (by decide) (fun c_3 => ?_) (fun c_3 => ?_)
        · have hw := hw.1 c_3
          refine lv_iinc (v := (x6 + (1 : Int32))) (lv' := [(6, .int (x6 + (1 : Int32))), (0, .ref co), (1, .int a1), (2, .int a2), (4, .int a4), (5, .int x5)]) hx hb dX0_worthWithin_38 hl (k := 5) rfl (by first | rfl | decide) (by decide) rfl (fun ls hl => ?_)
          refine lv_goto (tgt := 6) hx hb dX0_worthWithin_41 (by decide) ?_
          exact hJ6 x5 (x6 + (1 : Int32)) hw ls _ _ (lv_sub hl [1, 2, 3, 4, 5, 0] rfl) hP hD hS
        · have hw := hw.2 c_3
          refine lv_iload hx hb dX0_worthWithin_24 (lv_at hl 4 rfl) ?_
          refine lv_aload_n hx hb dX0_worthWithin_26 rfl (lv_at hl 0 rfl) ?_
          refine va_get (D := (dC, dI)) (ci := 0) (v := .ref cv) (C := RX0) (T := TX0) (N := 3) hx hb hts in_X0_worthWithin_X0 hown hK hP 0 rfl rfl 2 (by decide) (hts (.fieldLink RX0 21 "CakeMarks$Cake" "values" "[[I") (List.mem_of_getElem? (i := 2) rfl)) (fun _ h9 => h9) rfl dX0_worthWithin_27 ?_
          refine lv_iload_n hx hb dX0_worthWithin_30 rfl (lv_at hl 1 rfl) ?_
          obtain ⟨h_4, hw⟩ := hw
          refine zald hx hb hK hP 2 1 rfl rfl rfl h_4 rfl dX0_worthWithin_31 ?_
          refine lv_iload hx hb dX0_worthWithin_32 (lv_at hl 5 rfl) ?_
          refine va_iald hx hb hK hP (3 + a1.toNatClampNeg) 0 (co_4 (P := fun g => (kCake kI kA co ca cv cr cg cw cV)[3 + g]? = some (cr g, zi kI 24 (cV g))) rfl rfl rfl rfl (z_lt h_4)) rfl h_2 dX0_worthWithin_34 ?_
          refine lv_iadd hx hb dX0_worthWithin_35 ?_
          refine lv_istore (lv' := [(5, .int (x5 + (cV a1.toNatClampNeg x6.toNatClampNeg))), (0, .ref co), (1, .int a1), (2, .int a2), (4, .int a4), (6, .int x6)]) hx hb dX0_worthWithin_36 hl (by decide) rfl (fun ls hl => ?_)
          refine lv_iinc (v := (x6 + (1 : Int32))) (lv' := [(6, .int (x6 + (1 : Int32))), (5, .int (x5 + (cV a1.toNatClampNeg x6.toNatClampNeg))), (0, .ref co), (1, .int a1), (2, .int a2), (4, .int a4)]) hx hb dX0_worthWithin_38 hl (k := 5) rfl (by first | rfl | decide) (by decide) rfl (fun ls hl => ?_)
          refine lv_goto (tgt := 6) hx hb dX0_worthWithin_41 (by decide) ?_
          exact hJ6 (x5 + (cV a1.toNatClampNeg x6.toNatClampNeg)) (x6 + (1 : Int32)) hw ls _ _ (lv_sub hl [2, 3, 4, 5, 1, 0] rfl) hP hD hS
  have hJ6 : ∀ (x5 : Int32) (x6 : Int32), Wp_X0_worthWithin_6 cw cV a1 a2 a3 a4 Z x5 x6 → ∀ (ls : Array Slot) (H : Heap) (locs : List Loc), lv_has ls 7 [(0, .ref co), (1, .int a1), (2, .int a2), (4, .int a4), (5, .int x5), (6, .int x6)] → va_P (dC, dI) vwCl (kCake kI kA co ca cv cr cg cw cV) H → va_D A (kCake kI kA co ca cv cr cg cw cV) → va_S A s.heap H locs → W p l e ({ frames := 0, cells := 0, slots := 0, locals := 0 }) s m args below meth c H locs 0 0 Q (F0 m 6 ls []) := fun x5 x6 hv => hv (fun x5 x6 => ∀ (ls : Array Slot) (H : Heap) (locs : List Loc), lv_has ls 7 [(0, .ref co), (1, .int a1), (2, .int a2), (4, .int a4), (5, .int x5), (6, .int x6)] → va_P (dC, dI) vwCl (kCake kI kA co ca cv cr cg cw cV) H → va_D A (kCake kI kA co ca cv cr cg cw cV) → va_S A s.heap H locs → W p l e ({ frames := 0, cells := 0, slots := 0, locals := 0 }) s m args below meth c H locs 0 0 Q (F0 m 6 ls [])) (fun J6 q6 => (key J6 q6))
  unfold Wp_X0_worthWithin at hw
  refine lv_iconst (v := (0 : Int32)) hx hb dX0_worthWithin_0 (by decide) ?_
  refine lv_istore (lv' := [(5, .int (0 : Int32)), (0, .ref co), (1, .int a1), (2, .int a2), (3, .int a3), (4, .int a4)]) hx hb dX0_worthWithin_1 hl (by decide) rfl (fun ls hl => ?_)
  refine lv_iload_n hx hb dX0_worthWithin_3 rfl (lv_at hl 4 rfl) ?_
  refine lv_istore (lv' := [(6, .int a3), (5, .int (0 : Int32)), (0, .ref co), (1, .int a1), (2, .int a2), (3, .int a3), (4, .int a4)]) hx hb dX0_worthWithin_4 hl (by decide) rfl (fun ls hl => ?_)
  exact hJ6 (0 : Int32) a3 hw ls _ _ (lv_sub hl [2, 3, 4, 6, 1, 0] rfl) hP hD hS
-- CakeMarks$Cake.worth(II)I
def Wp_X0_worth (cw : Nat → Int32) (cV : Nat → Nat → Int32) (a1 : Int32) (a2 : Int32) (Z : Int32 → Prop) : Prop := (Wp_X0_worthWithin cw cV a1 a2 (0 : Int32) (23 : Int32) (fun r_1 => (Z r_1)))
set_option maxHeartbeats 20000000 in
set_option maxRecDepth 100000 in
theorem c_X0_worth (l : Launch) (dC : Nat → ClassId) (dI : Nat → Nat → Nat) (kI kA kC : ClassId) (co : Nat) (ca : Nat) (cv : Nat) (cr : Nat → Nat) (sz : Nat) (cg : Int32) (cw : Nat → Int32) (cV : Nat → Nat → Int32) (a1 : Int32) (a2 : Int32) (Z : Int32 → Prop) (hw : Wp_X0_worth cw cV a1 a2 Z) : zI l yX0_worth wsX0_worth ({ frames := 1, cells := 0, slots := 0, locals := 26 }) dC dI kI kA kC sz 0 0 [.ref co, .int a1, .int a2] (kCake kI kA co ca cv cr cg cw cV) (fun (r : Int32) (u : Unit) => Z r ) (fun (u : Unit) => (kCake kI kA co ca cv cr cg cw cV)) := by
  refine zI.of (cc := cX0_worth) (maxL := 3) (ty := .int) (by decide) rfl (Nat.le_of_ble_eq_true rfl) (Or.inl rfl) ?_
  intro p e s m args below meth c A Q C0 hret ls hl
  obtain ⟨hx, hb, hr, hml, hts, hown, hin, hP, hK, hD, hA, hS⟩ := C0
  have hown : s.vm.findClass RX0 = some m.cls := hown
  have hl : lv_has ls 3 [(0, .ref co), (1, .int a1), (2, .int a2)] := hl
  unfold Wp_X0_worth at hw
  refine lv_aload_n hx hb dX0_worth_0 rfl (lv_at hl 0 rfl) ?_
  refine lv_iload_n hx hb dX0_worth_1 rfl (lv_at hl 1 rfl) ?_
  refine lv_iload_n hx hb dX0_worth_2 rfl (lv_at hl 2 rfl) ?_
  refine lv_iconst (v := (0 : Int32)) hx hb dX0_worth_3 (by decide) ?_
  refine lv_bipush (v := (23 : Int32)) hx hb dX0_worth_4 (by decide) ?_
  refine zcallI (ci := 0) (q0 := 0) (As := [.int a1, .int a2, .int (0 : Int32), .int (23 : Int32)]) (rest := []) (wr := ([] : va_W)) (Wn := fun u => (kCake kI kA co ca cv cr cg cw cV)) ⟨hx, hb, hml, hown, hts⟩ (c_X0_worthWithin l dC dI kI kA kC co ca cv cr _ cg cw cV a1 a2 (0 : Int32) (23 : Int32) _ hw) (cwV 4 hts gX0_worth_X0_worthWithin rfl rfl rfl (by decide +kernel) ⟨Nat.le_of_ble_eq_true rfl, Nat.le_of_ble_eq_true rfl⟩) hK hP hD hS hA [0, 1, 2, 3, 4, 5, 6] [] [0, 1, 2, 3, 4, 5, 6] rfl rfl (by decide) (by decide) (by decide) (fun u => rfl) (by decide) rfl rfl rfl rfl hl.1 rfl (Nat.le_of_ble_eq_true rfl) dX0_worth_6 ⟨Nat.zero_le _, Nat.zero_le _⟩ (fun r_1 u H locs hw hP hD hS => ?_)
  have hP : va_P (dC, dI) vwCl (kCake kI kA co ca cv cr cg cw cV) H := hP
  have hD : va_D A (kCake kI kA co ca cv cr cg cw cV) := hD
  exact hret 9 r_1 () _ _ _ (fun h => absurd h (by decide)) hw hP hD hS dX0_worth_9
-- CakeMarks$Cake.crumbsOf(I)I
def B_X0_crumbsOf_4 (cw : Nat → Int32) (a1 : Int32) (Z : Int32 → Prop) (J4 : Int32 → Int32 → Prop) (x2 : Int32) (x3 : Int32) : Prop := (((24 : Int32) ≤ x3 → (Z x2)) ∧ (¬ (24 : Int32) ≤ x3 → (vp_in x3 24 ∧ ((¬ (cw x3.toNatClampNeg) = a1 → (J4 x2 (x3 + (1 : Int32)))) ∧ ((cw x3.toNatClampNeg) = a1 → (J4 (x2 + (1 : Int32)) (x3 + (1 : Int32))))))))
def Wp_X0_crumbsOf_4 (cw : Nat → Int32) (a1 : Int32) (Z : Int32 → Prop) (x2 : Int32) (x3 : Int32) : Prop := ∀ (I4 : Int32 → Int32 → Prop), (∀ (J4 : Int32 → Int32 → Prop), (∀ (x2 : Int32) (x3 : Int32), J4 x2 x3 → I4 x2 x3) → ∀ (x2 : Int32) (x3 : Int32), B_X0_crumbsOf_4 cw a1 Z J4 x2 x3 → I4 x2 x3) → I4 x2 x3
theorem F_X0_crumbsOf_4 (cw : Nat → Int32) (a1 : Int32) (Z : Int32 → Prop) (x2 : Int32) (x3 : Int32) (h : B_X0_crumbsOf_4 cw a1 Z (Wp_X0_crumbsOf_4 cw a1 Z) x2 x3) : Wp_X0_crumbsOf_4 cw a1 Z x2 x3 := fun I4 h4 => h4 _ (fun x2 x3 hx => hx I4 h4) x2 x3 h
def Wp_X0_crumbsOf (cw : Nat → Int32) (a1 : Int32) (Z : Int32 → Prop) : Prop := ((Wp_X0_crumbsOf_4 cw a1 Z) (0 : Int32) (0 : Int32))
theorem in_X0_crumbsOf_X0 : ∀ w ∈ u_ws RX0 TX0 3, w ∈ wsX0_crumbsOf := fun w h => List.mem_cons_of_mem _ (List.mem_append_right _ h)
set_option maxHeartbeats 20000000 in
set_option maxRecDepth 100000 in
theorem c_X0_crumbsOf (l : Launch) (dC : Nat → ClassId) (dI : Nat → Nat → Nat) (kI kA kC : ClassId) (co : Nat) (ca : Nat) (cv : Nat) (cr : Nat → Nat) (sz : Nat) (cg : Int32) (cw : Nat → Int32) (cV : Nat → Nat → Int32) (a1 : Int32) (Z : Int32 → Prop) (hw : Wp_X0_crumbsOf cw a1 Z) : zI l yX0_crumbsOf wsX0_crumbsOf ({ frames := 0, cells := 0, slots := 0, locals := 0 }) dC dI kI kA kC sz 0 0 [.ref co, .int a1] (kCake kI kA co ca cv cr cg cw cV) (fun (r : Int32) (u : Unit) => Z r ) (fun (u : Unit) => (kCake kI kA co ca cv cr cg cw cV)) := by
  refine zI.of (cc := cX0_crumbsOf) (maxL := 4) (ty := .int) (by decide) rfl (Nat.le_of_ble_eq_true rfl) (Or.inl rfl) ?_
  intro p e s m args below meth c A Q C0 hret ls hl
  obtain ⟨hx, hb, hr, hml, hts, hown, hin, hP, hK, hD, hA, hS⟩ := C0
  have hown : s.vm.findClass RX0 = some m.cls := hown
  have hl : lv_has ls 4 [(0, .ref co), (1, .int a1)] := hl
  have key : ∀ (J4 : Int32 → Int32 → Prop) (hJ4 : ∀ (x2 : Int32) (x3 : Int32), J4 x2 x3 → ∀ (ls : Array Slot) (H : Heap) (locs : List Loc), lv_has ls 4 [(0, .ref co), (1, .int a1), (2, .int x2), (3, .int x3)] → va_P (dC, dI) vwCl (kCake kI kA co ca cv cr cg cw cV) H → va_D A (kCake kI kA co ca cv cr cg cw cV) → va_S A s.heap H locs → W p l e ({ frames := 0, cells := 0, slots := 0, locals := 0 }) s m args below meth c H locs 0 0 Q (F0 m 4 ls [])), (∀ (x2 : Int32) (x3 : Int32), B_X0_crumbsOf_4 cw a1 Z J4 x2 x3 → ∀ (ls : Array Slot) (H : Heap) (locs : List Loc), lv_has ls 4 [(0, .ref co), (1, .int a1), (2, .int x2), (3, .int x3)] → va_P (dC, dI) vwCl (kCake kI kA co ca cv cr cg cw cV) H → va_D A (kCake kI kA co ca cv cr cg cw cV) → va_S A s.heap H locs → W p l e ({ frames := 0, cells := 0, slots := 0, locals := 0 }) s m args below meth c H locs 0 0 Q (F0 m 4 ls [])) := by
    intro J4 hJ4
    · intro x2 x3 hw ls H locs hl hP hD hS
      unfold B_X0_crumbsOf_4 at hw
      refine lv_iload_n hx hb dX0_crumbsOf_4 rfl (lv_at hl 3 rfl) ?_
      refine lv_bipush (v := (24 : Int32)) hx hb dX0_crumbsOf_5 (by decide) ?_
      refine lv_icmp_ge (tgt := 29) hx hb dX0_crumbsOf_7 (by decide) (fun c_1 => ?_) (fun c_1 => ?_)
      · have hw := hw.1 c_1
        refine lv_iload_n hx hb dX0_crumbsOf_29 rfl (lv_at hl 2 rfl) ?_
        exact hret 30 x2 () _ _ _ (fun h => absurd h (by decide)) hw hP hD hS dX0_crumbsOf_30
      · have hw := hw.2 c_1
        refine lv_aload_n hx hb dX0_crumbsOf_10 rfl (lv_at hl 0 rfl) ?_
        refine va_get (D := (dC, dI)) (ci := 0) (v := .ref ca) (C := RX0) (T := TX0) (N := 3) hx hb hts in_X0_crumbsOf_X0 hown hK hP 0 rfl rfl 1 (by decide) (hts (.fieldLink RX0 15 "CakeMarks$Cake" "owner" "[I") (List.mem_of_getElem? (i := 1) rfl)) (fun _ h9 => h9) rfl dX0_crumbsOf_11 ?_
        refine lv_iload_n hx hb dX0_crumbsOf_14 rfl (lv_at hl 3 rfl) ?_
        obtain ⟨h_2, hw⟩ := hw
        refine va_iald hx hb hK hP 1 0 rfl rfl h_2 dX0_crumbsOf_15 ?_
        refine lv_iload_n hx hb dX0_crumbsOf_16 rfl (lv_at hl 1 rfl) ?_
        refine lv_icmp_ne (tgt := 23) hx hb dX0_crumbsOf_17 (by decide) (fun c_3 => ?_) (fun c_3 => ?_)
        · have hw := hw.1 c_3
          refine lv_iinc (v := (x3 + (1 : Int32))) (lv' := [(3, .int (x3 + (1 : Int32))), (0, .ref co), (1, .int a1), (2, .int x2)]) hx hb dX0_crumbsOf_23 hl (k := 3) rfl (by first | rfl | decide) (by decide) rfl (fun ls hl => ?_)
          refine lv_goto (tgt := 4) hx hb dX0_crumbsOf_26 (by decide) ?_
          exact hJ4 x2 (x3 + (1 : Int32)) hw ls _ _ (lv_sub hl [1, 2, 3, 0] rfl) hP hD hS
        · have hw := hw.2 c_3
          refine lv_iinc (v := (x2 + (1 : Int32))) (lv' := [(2, .int (x2 + (1 : Int32))), (0, .ref co), (1, .int a1), (3, .int x3)]) hx hb dX0_crumbsOf_20 hl (k := 2) rfl (by first | rfl | decide) (by decide) rfl (fun ls hl => ?_)
          refine lv_iinc (v := (x3 + (1 : Int32))) (lv' := [(3, .int (x3 + (1 : Int32))), (2, .int (x2 + (1 : Int32))), (0, .ref co), (1, .int a1)]) hx hb dX0_crumbsOf_23 hl (k := 3) rfl (by first | rfl | decide) (by decide) rfl (fun ls hl => ?_)
          refine lv_goto (tgt := 4) hx hb dX0_crumbsOf_26 (by decide) ?_
          exact hJ4 (x2 + (1 : Int32)) (x3 + (1 : Int32)) hw ls _ _ (lv_sub hl [2, 3, 1, 0] rfl) hP hD hS
  have hJ4 : ∀ (x2 : Int32) (x3 : Int32), Wp_X0_crumbsOf_4 cw a1 Z x2 x3 → ∀ (ls : Array Slot) (H : Heap) (locs : List Loc), lv_has ls 4 [(0, .ref co), (1, .int a1), (2, .int x2), (3, .int x3)] → va_P (dC, dI) vwCl (kCake kI kA co ca cv cr cg cw cV) H → va_D A (kCake kI kA co ca cv cr cg cw cV) → va_S A s.heap H locs → W p l e ({ frames := 0, cells := 0, slots := 0, locals := 0 }) s m args below meth c H locs 0 0 Q (F0 m 4 ls []) := fun x2 x3 hv => hv (fun x2 x3 => ∀ (ls : Array Slot) (H : Heap) (locs : List Loc), lv_has ls 4 [(0, .ref co), (1, .int a1), (2, .int x2), (3, .int x3)] → va_P (dC, dI) vwCl (kCake kI kA co ca cv cr cg cw cV) H → va_D A (kCake kI kA co ca cv cr cg cw cV) → va_S A s.heap H locs → W p l e ({ frames := 0, cells := 0, slots := 0, locals := 0 }) s m args below meth c H locs 0 0 Q (F0 m 4 ls [])) (fun J4 q4 => (key J4 q4))
  unfold Wp_X0_crumbsOf at hw
  refine lv_iconst (v := (0 : Int32)) hx hb dX0_crumbsOf_0 (by decide) ?_
  refine lv_istore_n (lv' := [(2, .int (0 : Int32)), (0, .ref co), (1, .int a1)]) hx hb dX0_crumbsOf_1 rfl hl (by decide) rfl (fun ls hl => ?_)
  refine lv_iconst (v := (0 : Int32)) hx hb dX0_crumbsOf_2 (by decide) ?_
  refine lv_istore_n (lv' := [(3, .int (0 : Int32)), (2, .int (0 : Int32)), (0, .ref co), (1, .int a1)]) hx hb dX0_crumbsOf_3 rfl hl (by decide) rfl (fun ls hl => ?_)
  exact hJ4 (0 : Int32) (0 : Int32) hw ls _ _ (lv_sub hl [2, 3, 1, 0] rfl) hP hD hS
-- CakeMarks$Cake.spansOf(I)I
def B_X0_spansOf_4 (cw : Nat → Int32) (a1 : Int32) (Z : Int32 → Prop) (J4 : Int32 → Int32 → Prop) (x2 : Int32) (x3 : Int32) : Prop := (((24 : Int32) ≤ x3 → (Z x2)) ∧ (¬ (24 : Int32) ≤ x3 → (vp_in x3 24 ∧ ((¬ (cw x3.toNatClampNeg) = a1 → (J4 x2 (x3 + (1 : Int32)))) ∧ ((cw x3.toNatClampNeg) = a1 → ((x3 = (0 : Int32) → (J4 (x2 + (1 : Int32)) (x3 + (1 : Int32)))) ∧ (¬ x3 = (0 : Int32) → (vp_in (x3 - (1 : Int32)) 24 ∧ (((cw (x3 - (1 : Int32)).toNatClampNeg) = a1 → (J4 x2 (x3 + (1 : Int32)))) ∧ (¬ (cw (x3 - (1 : Int32)).toNatClampNeg) = a1 → (J4 (x2 + (1 : Int32)) (x3 + (1 : Int32)))))))))))))
def Wp_X0_spansOf_4 (cw : Nat → Int32) (a1 : Int32) (Z : Int32 → Prop) (x2 : Int32) (x3 : Int32) : Prop := ∀ (I4 : Int32 → Int32 → Prop), (∀ (J4 : Int32 → Int32 → Prop), (∀ (x2 : Int32) (x3 : Int32), J4 x2 x3 → I4 x2 x3) → ∀ (x2 : Int32) (x3 : Int32), B_X0_spansOf_4 cw a1 Z J4 x2 x3 → I4 x2 x3) → I4 x2 x3
theorem F_X0_spansOf_4 (cw : Nat → Int32) (a1 : Int32) (Z : Int32 → Prop) (x2 : Int32) (x3 : Int32) (h : B_X0_spansOf_4 cw a1 Z (Wp_X0_spansOf_4 cw a1 Z) x2 x3) : Wp_X0_spansOf_4 cw a1 Z x2 x3 := fun I4 h4 => h4 _ (fun x2 x3 hx => hx I4 h4) x2 x3 h
def Wp_X0_spansOf (cw : Nat → Int32) (a1 : Int32) (Z : Int32 → Prop) : Prop := ((Wp_X0_spansOf_4 cw a1 Z) (0 : Int32) (0 : Int32))
theorem in_X0_spansOf_X0 : ∀ w ∈ u_ws RX0 TX0 3, w ∈ wsX0_spansOf := fun w h => List.mem_cons_of_mem _ (List.mem_append_right _ h)
set_option maxHeartbeats 20000000 in
set_option maxRecDepth 100000 in
theorem c_X0_spansOf (l : Launch) (dC : Nat → ClassId) (dI : Nat → Nat → Nat) (kI kA kC : ClassId) (co : Nat) (ca : Nat) (cv : Nat) (cr : Nat → Nat) (sz : Nat) (cg : Int32) (cw : Nat → Int32) (cV : Nat → Nat → Int32) (a1 : Int32) (Z : Int32 → Prop) (hw : Wp_X0_spansOf cw a1 Z) : zI l yX0_spansOf wsX0_spansOf ({ frames := 0, cells := 0, slots := 0, locals := 0 }) dC dI kI kA kC sz 0 0 [.ref co, .int a1] (kCake kI kA co ca cv cr cg cw cV) (fun (r : Int32) (u : Unit) => Z r ) (fun (u : Unit) => (kCake kI kA co ca cv cr cg cw cV)) := by
  refine zI.of (cc := cX0_spansOf) (maxL := 4) (ty := .int) (by decide) rfl (Nat.le_of_ble_eq_true rfl) (Or.inl rfl) ?_
  intro p e s m args below meth c A Q C0 hret ls hl
  obtain ⟨hx, hb, hr, hml, hts, hown, hin, hP, hK, hD, hA, hS⟩ := C0
  have hown : s.vm.findClass RX0 = some m.cls := hown
  have hl : lv_has ls 4 [(0, .ref co), (1, .int a1)] := hl
  have key : ∀ (J4 : Int32 → Int32 → Prop) (hJ4 : ∀ (x2 : Int32) (x3 : Int32), J4 x2 x3 → ∀ (ls : Array Slot) (H : Heap) (locs : List Loc), lv_has ls 4 [(0, .ref co), (1, .int a1), (2, .int x2), (3, .int x3)] → va_P (dC, dI) vwCl (kCake kI kA co ca cv cr cg cw cV) H → va_D A (kCake kI kA co ca cv cr cg cw cV) → va_S A s.heap H locs → W p l e ({ frames := 0, cells := 0, slots := 0, locals := 0 }) s m args below meth c H locs 0 0 Q (F0 m 4 ls [])), (∀ (x2 : Int32) (x3 : Int32), B_X0_spansOf_4 cw a1 Z J4 x2 x3 → ∀ (ls : Array Slot) (H : Heap) (locs : List Loc), lv_has ls 4 [(0, .ref co), (1, .int a1), (2, .int x2), (3, .int x3)] → va_P (dC, dI) vwCl (kCake kI kA co ca cv cr cg cw cV) H → va_D A (kCake kI kA co ca cv cr cg cw cV) → va_S A s.heap H locs → W p l e ({ frames := 0, cells := 0, slots := 0, locals := 0 }) s m args below meth c H locs 0 0 Q (F0 m 4 ls [])) := by
    intro J4 hJ4
    · intro x2 x3 hw ls H locs hl hP hD hS
      unfold B_X0_spansOf_4 at hw
      refine lv_iload_n hx hb dX0_spansOf_4 rfl (lv_at hl 3 rfl) ?_
      refine lv_bipush (v := (24 : Int32)) hx hb dX0_spansOf_5 (by decide) ?_
      refine lv_icmp_ge (tgt := 45) hx hb dX0_spansOf_7 (by decide) (fun c_1 => ?_) (fun c_1 => ?_)
      · have hw := hw.1 c_1
        refine lv_iload_n hx hb dX0_spansOf_45 rfl (lv_at hl 2 rfl) ?_
        exact hret 46 x2 () _ _ _ (fun h => absurd h (by decide)) hw hP hD hS dX0_spansOf_46
      · have hw := hw.2 c_1
        refine lv_aload_n hx hb dX0_spansOf_10 rfl (lv_at hl 0 rfl) ?_
        refine va_get (D := (dC, dI)) (ci := 0) (v := .ref ca) (C := RX0) (T := TX0) (N := 3) hx hb hts in_X0_spansOf_X0 hown hK hP 0 rfl rfl 1 (by decide) (hts (.fieldLink RX0 15 "CakeMarks$Cake" "owner" "[I") (List.mem_of_getElem? (i := 1) rfl)) (fun _ h9 => h9) rfl dX0_spansOf_11 ?_
        refine lv_iload_n hx hb dX0_spansOf_14 rfl (lv_at hl 3 rfl) ?_
        obtain ⟨h_2, hw⟩ := hw
        refine va_iald hx hb hK hP 1 0 rfl rfl h_2 dX0_spansOf_15 ?_
        refine lv_iload_n hx hb dX0_spansOf_16 rfl (lv_at hl 1 rfl) ?_
        refine lv_icmp_ne (tgt := 39) hx hb dX0_spansOf_17 (by decide) (fun c_3 => ?_) (fun c_3 => ?_)
        · have hw := hw.1 c_3
          refine lv_iinc (v := (x3 + (1 : Int32))) (lv' := [(3, .int (x3 + (1 : Int32))), (0, .ref co), (1, .int a1), (2, .int x2)]) hx hb dX0_spansOf_39 hl (k := 3) rfl (by first | rfl | decide) (by decide) rfl (fun ls hl => ?_)
          refine lv_goto (tgt := 4) hx hb dX0_spansOf_42 (by decide) ?_
          exact hJ4 x2 (x3 + (1 : Int32)) hw ls _ _ (lv_sub hl [1, 2, 3, 0] rfl) hP hD hS
        · have hw := hw.2 c_3
          refine lv_iload_n hx hb dX0_spansOf_20 rfl (lv_at hl 3 rfl) ?_
          refine lv_if_eq (tgt := 36) hx hb dX0_spansOf_21 (by decide) (fun c_4 => ?_) (fun c_4 => ?_)
          · have hw := hw.1 c_4
            refine lv_iinc (v := (x2 + (1 : Int32))) (lv' := [(2, .int (x2 + (1 : Int32))), (0, .ref co), (1, .int a1), (3, .int x3)]) hx hb dX0_spansOf_36 hl (k := 2) rfl (by first | rfl | decide) (by decide) rfl (fun ls hl => ?_)
            refine lv_iinc (v := (x3 + (1 : Int32))) (lv' := [(3, .int (x3 + (1 : Int32))), (2, .int (x2 + (1 : Int32))), (0, .ref co), (1, .int a1)]) hx hb dX0_spansOf_39 hl (k := 3) rfl (by first | rfl | decide) (by decide) rfl (fun ls hl => ?_)
            refine lv_goto (tgt := 4) hx hb dX0_spansOf_42 (by decide) ?_
            exact hJ4 (x2 + (1 : Int32)) (x3 + (1 : Int32)) hw ls _ _ (lv_sub hl [2, 3, 1, 0] rfl) hP hD hS
          · have hw := hw.2 c_4
            refine lv_aload_n hx hb dX0_spansOf_24 rfl (lv_at hl 0 rfl) ?_
            refine va_get (D := (dC, dI)) (ci := 0) (v := .ref ca) (C := RX0) (T := TX0) (N := 3) hx hb hts in_X0_spansOf_X0 hown hK hP 0 rfl rfl 1 (by decide) (hts (.fieldLink RX0 15 "CakeMarks$Cake" "owner" "[I") (List.mem_of_getElem? (i := 1) rfl)) (fun _ h9 => h9) rfl dX0_spansOf_25 ?_
            refine lv_iload_n hx hb dX0_spansOf_28 rfl (lv_at hl 3 rfl) ?_
            refine lv_iconst (v := (1 : Int32)) hx hb dX0_spansOf_29 (by decide) ?_
            refine lv_isub hx hb dX0_spansOf_30 ?_
            obtain ⟨h_5, hw⟩ := hw
            refine va_iald hx hb hK hP 1 0 rfl rfl h_5 dX0_spansOf_31 ?_
            refine lv_iload_n hx hb dX0_spansOf_32 rfl (lv_at hl 1 rfl) ?_
            refine lv_icmp_eq (tgt := 39) hx hb dX0_spansOf_33 (by decide) (fun c_6 => ?_) (fun c_6 => ?_)
            · have hw := hw.1 c_6
              refine lv_iinc (v := (x3 + (1 : Int32))) (lv' := [(3, .int (x3 + (1 : Int32))), (0, .ref co), (1, .int a1), (2, .int x2)]) hx hb dX0_spansOf_39 hl (k := 3) rfl (by first | rfl | decide) (by decide) rfl (fun ls hl => ?_)
              refine lv_goto (tgt := 4) hx hb dX0_spansOf_42 (by decide) ?_
              exact hJ4 x2 (x3 + (1 : Int32)) hw ls _ _ (lv_sub hl [1, 2, 3, 0] rfl) hP hD hS
            · have hw := hw.2 c_6
              refine lv_iinc (v := (x2 + (1 : Int32))) (lv' := [(2, .int (x2 + (1 : Int32))), (0, .ref co), (1, .int a1), (3, .int x3)]) hx hb dX0_spansOf_36 hl (k := 2) rfl (by first | rfl | decide) (by decide) rfl (fun ls hl => ?_)
              refine lv_iinc (v := (x3 + (1 : Int32))) (lv' := [(3, .int (x3 + (1 : Int32))), (2, .int (x2 + (1 : Int32))), (0, .ref co), (1, .int a1)]) hx hb dX0_spansOf_39 hl (k := 3) rfl (by first | rfl | decide) (by decide) rfl (fun ls hl => ?_)
              refine lv_goto (tgt := 4) hx hb dX0_spansOf_42 (by decide) ?_
              exact hJ4 (x2 + (1 : Int32)) (x3 + (1 : Int32)) hw ls _ _ (lv_sub hl [2, 3, 1, 0] rfl) hP hD hS
  have hJ4 : ∀ (x2 : Int32) (x3 : Int32), Wp_X0_spansOf_4 cw a1 Z x2 x3 → ∀ (ls : Array Slot) (H : Heap) (locs : List Loc), lv_has ls 4 [(0, .ref co), (1, .int a1), (2, .int x2), (3, .int x3)] → va_P (dC, dI) vwCl (kCake kI kA co ca cv cr cg cw cV) H → va_D A (kCake kI kA co ca cv cr cg cw cV) → va_S A s.heap H locs → W p l e ({ frames := 0, cells := 0, slots := 0, locals := 0 }) s m args below meth c H locs 0 0 Q (F0 m 4 ls []) := fun x2 x3 hv => hv (fun x2 x3 => ∀ (ls : Array Slot) (H : Heap) (locs : List Loc), lv_has ls 4 [(0, .ref co), (1, .int a1), (2, .int x2), (3, .int x3)] → va_P (dC, dI) vwCl (kCake kI kA co ca cv cr cg cw cV) H → va_D A (kCake kI kA co ca cv cr cg cw cV) → va_S A s.heap H locs → W p l e ({ frames := 0, cells := 0, slots := 0, locals := 0 }) s m args below meth c H locs 0 0 Q (F0 m 4 ls [])) (fun J4 q4 => (key J4 q4))
  unfold Wp_X0_spansOf at hw
  refine lv_iconst (v := (0 : Int32)) hx hb dX0_spansOf_0 (by decide) ?_
  refine lv_istore_n (lv' := [(2, .int (0 : Int32)), (0, .ref co), (1, .int a1)]) hx hb dX0_spansOf_1 rfl hl (by decide) rfl (fun ls hl => ?_)
  refine lv_iconst (v := (0 : Int32)) hx hb dX0_spansOf_2 (by decide) ?_
  refine lv_istore_n (lv' := [(3, .int (0 : Int32)), (2, .int (0 : Int32)), (0, .ref co), (1, .int a1)]) hx hb dX0_spansOf_3 rfl hl (by decide) rfl (fun ls hl => ?_)
  exact hJ4 (0 : Int32) (0 : Int32) hw ls _ _ (lv_sub hl [2, 3, 1, 0] rfl) hP hD hS
-- CakeMarks$Cake.liesOnTable(II)Z
def B_X0_liesOnTable_2 (cw : Nat → Int32) (a1 : Int32) (a2 : Int32) (Z : Int32 → Prop) (J2 : Int32 → Prop) (x3 : Int32) : Prop := ((a2 < x3 → (Z (1 : Int32))) ∧ (¬ a2 < x3 → (vp_in x3 24 ∧ (((cw x3.toNatClampNeg) = (-1 : Int32) → (J2 (x3 + (1 : Int32)))) ∧ (¬ (cw x3.toNatClampNeg) = (-1 : Int32) → (Z (0 : Int32)))))))
def Wp_X0_liesOnTable_2 (cw : Nat → Int32) (a1 : Int32) (a2 : Int32) (Z : Int32 → Prop) (x3 : Int32) : Prop := ∀ (I2 : Int32 → Prop), (∀ (J2 : Int32 → Prop), (∀ (x3 : Int32), J2 x3 → I2 x3) → ∀ (x3 : Int32), B_X0_liesOnTable_2 cw a1 a2 Z J2 x3 → I2 x3) → I2 x3
theorem F_X0_liesOnTable_2 (cw : Nat → Int32) (a1 : Int32) (a2 : Int32) (Z : Int32 → Prop) (x3 : Int32) (h : B_X0_liesOnTable_2 cw a1 a2 Z (Wp_X0_liesOnTable_2 cw a1 a2 Z) x3) : Wp_X0_liesOnTable_2 cw a1 a2 Z x3 := fun I2 h2 => h2 _ (fun x3 hx => hx I2 h2) x3 h
def Wp_X0_liesOnTable (cw : Nat → Int32) (a1 : Int32) (a2 : Int32) (Z : Int32 → Prop) : Prop := ((Wp_X0_liesOnTable_2 cw a1 a2 Z) a1)
theorem in_X0_liesOnTable_X0 : ∀ w ∈ u_ws RX0 TX0 3, w ∈ wsX0_liesOnTable := fun w h => List.mem_cons_of_mem _ (List.mem_append_right _ h)
set_option maxHeartbeats 20000000 in
set_option maxRecDepth 100000 in
theorem c_X0_liesOnTable (l : Launch) (dC : Nat → ClassId) (dI : Nat → Nat → Nat) (kI kA kC : ClassId) (co : Nat) (ca : Nat) (cv : Nat) (cr : Nat → Nat) (sz : Nat) (cg : Int32) (cw : Nat → Int32) (cV : Nat → Nat → Int32) (a1 : Int32) (a2 : Int32) (Z : Int32 → Prop) (hw : Wp_X0_liesOnTable cw a1 a2 Z) : zI l yX0_liesOnTable wsX0_liesOnTable ({ frames := 0, cells := 0, slots := 0, locals := 0 }) dC dI kI kA kC sz 0 0 [.ref co, .int a1, .int a2] (kCake kI kA co ca cv cr cg cw cV) (fun (r : Int32) (u : Unit) => Z r ) (fun (u : Unit) => (kCake kI kA co ca cv cr cg cw cV)) := by
  refine zI.of (cc := cX0_liesOnTable) (maxL := 4) (ty := .boolean) (by decide) rfl (Nat.le_of_ble_eq_true rfl) (Or.inr rfl) ?_
  intro p e s m args below meth c A Q C0 hret ls hl
  obtain ⟨hx, hb, hr, hml, hts, hown, hin, hP, hK, hD, hA, hS⟩ := C0
  have hown : s.vm.findClass RX0 = some m.cls := hown
  have hl : lv_has ls 4 [(0, .ref co), (1, .int a1), (2, .int a2)] := hl
  have key : ∀ (J2 : Int32 → Prop) (hJ2 : ∀ (x3 : Int32), J2 x3 → ∀ (ls : Array Slot) (H : Heap) (locs : List Loc), lv_has ls 4 [(0, .ref co), (2, .int a2), (3, .int x3)] → va_P (dC, dI) vwCl (kCake kI kA co ca cv cr cg cw cV) H → va_D A (kCake kI kA co ca cv cr cg cw cV) → va_S A s.heap H locs → W p l e ({ frames := 0, cells := 0, slots := 0, locals := 0 }) s m args below meth c H locs 0 0 Q (F0 m 2 ls [])), (∀ (x3 : Int32), B_X0_liesOnTable_2 cw a1 a2 Z J2 x3 → ∀ (ls : Array Slot) (H : Heap) (locs : List Loc), lv_has ls 4 [(0, .ref co), (2, .int a2), (3, .int x3)] → va_P (dC, dI) vwCl (kCake kI kA co ca cv cr cg cw cV) H → va_D A (kCake kI kA co ca cv cr cg cw cV) → va_S A s.heap H locs → W p l e ({ frames := 0, cells := 0, slots := 0, locals := 0 }) s m args below meth c H locs 0 0 Q (F0 m 2 ls [])) := by
    intro J2 hJ2
    · intro x3 hw ls H locs hl hP hD hS
      unfold B_X0_liesOnTable_2 at hw
      refine lv_iload_n hx hb dX0_liesOnTable_2 rfl (lv_at hl 2 rfl) ?_
      refine lv_iload_n hx hb dX0_liesOnTable_3 rfl (lv_at hl 1 rfl) ?_
      refine lv_icmp_gt (tgt := 25) hx hb dX0_liesOnTable_4 (by decide) (fun c_1 => ?_) (fun c_1 => ?_)
      · have hw := hw.1 c_1
        refine lv_iconst (v := (1 : Int32)) hx hb dX0_liesOnTable_25 (by decide) ?_
        exact hret 26 (1 : Int32) () _ _ _ (fun _ => rfl) hw hP hD hS dX0_liesOnTable_26
      · have hw := hw.2 c_1
        refine lv_aload_n hx hb dX0_liesOnTable_7 rfl (lv_at hl 0 rfl) ?_
        refine va_get (D := (dC, dI)) (ci := 0) (v := .ref ca) (C := RX0) (T := TX0) (N := 3) hx hb hts in_X0_liesOnTable_X0 hown hK hP 0 rfl rfl 1 (by decide) (hts (.fieldLink RX0 15 "CakeMarks$Cake" "owner" "[I") (List.mem_of_getElem? (i := 1) rfl)) (fun _ h9 => h9) rfl dX0_liesOnTable_8 ?_
        refine lv_iload_n hx hb dX0_liesOnTable_11 rfl (lv_at hl 2 rfl) ?_
        obtain ⟨h_2, hw⟩ := hw
        refine va_iald hx hb hK hP 1 0 rfl rfl h_2 dX0_liesOnTable_12 ?_
        refine lv_iconst (v := (-1 : Int32)) hx hb dX0_liesOnTable_13 (by decide) ?_
        refine lv_icmp_eq (tgt := 19) hx hb dX0_liesOnTable_14 (by decide) (fun c_3 => ?_) (fun c_3 => ?_)
        · have hw := hw.1 c_3
          refine lv_iinc (v := (x3 + (1 : Int32))) (lv' := [(3, .int (x3 + (1 : Int32))), (0, .ref co), (2, .int a2)]) hx hb dX0_liesOnTable_19 hl (k := 2) rfl (by first | rfl | decide) (by decide) rfl (fun ls hl => ?_)
          refine lv_goto (tgt := 2) hx hb dX0_liesOnTable_22 (by decide) ?_
          exact hJ2 (x3 + (1 : Int32)) hw ls _ _ (lv_sub hl [1, 2, 0] rfl) hP hD hS
        · have hw := hw.2 c_3
          refine lv_iconst (v := (0 : Int32)) hx hb dX0_liesOnTable_17 (by decide) ?_
          exact hret 18 (0 : Int32) () _ _ _ (fun _ => rfl) hw hP hD hS dX0_liesOnTable_18
  have hJ2 : ∀ (x3 : Int32), Wp_X0_liesOnTable_2 cw a1 a2 Z x3 → ∀ (ls : Array Slot) (H : Heap) (locs : List Loc), lv_has ls 4 [(0, .ref co), (2, .int a2), (3, .int x3)] → va_P (dC, dI) vwCl (kCake kI kA co ca cv cr cg cw cV) H → va_D A (kCake kI kA co ca cv cr cg cw cV) → va_S A s.heap H locs → W p l e ({ frames := 0, cells := 0, slots := 0, locals := 0 }) s m args below meth c H locs 0 0 Q (F0 m 2 ls []) := fun x3 hv => hv (fun x3 => ∀ (ls : Array Slot) (H : Heap) (locs : List Loc), lv_has ls 4 [(0, .ref co), (2, .int a2), (3, .int x3)] → va_P (dC, dI) vwCl (kCake kI kA co ca cv cr cg cw cV) H → va_D A (kCake kI kA co ca cv cr cg cw cV) → va_S A s.heap H locs → W p l e ({ frames := 0, cells := 0, slots := 0, locals := 0 }) s m args below meth c H locs 0 0 Q (F0 m 2 ls [])) (fun J2 q2 => (key J2 q2))
  unfold Wp_X0_liesOnTable at hw
  refine lv_iload_n hx hb dX0_liesOnTable_0 rfl (lv_at hl 1 rfl) ?_
  refine lv_istore_n (lv' := [(3, .int a1), (0, .ref co), (1, .int a1), (2, .int a2)]) hx hb dX0_liesOnTable_1 rfl hl (by decide) rfl (fun ls hl => ?_)
  exact hJ2 a1 hw ls _ _ (lv_sub hl [1, 3, 0] rfl) hP hD hS
-- CakeMarks$Cake.handOut(III)I
def B_X0_handOut_6 (a1 : Int32) (a2 : Int32) (a3 : Int32) (Z : Int32 → (Nat → Int32) → Prop) (J6 : Int32 → Int32 → (Nat → Int32) → Prop) (x4 : Int32) (x5 : Int32) (cw : Nat → Int32) : Prop := ((a3 < x5 → (Z x4 cw)) ∧ (¬ a3 < x5 → (vp_in x5 24 ∧ ((¬ (cw x5.toNatClampNeg) = (-1 : Int32) → (J6 x4 (x5 + (1 : Int32)) cw)) ∧ ((cw x5.toNatClampNeg) = (-1 : Int32) → (J6 (x4 + (1 : Int32)) (x5 + (1 : Int32)) (upd cw x5.toNatClampNeg a1)))))))
def Wp_X0_handOut_6 (a1 : Int32) (a2 : Int32) (a3 : Int32) (Z : Int32 → (Nat → Int32) → Prop) (x4 : Int32) (x5 : Int32) (cw : Nat → Int32) : Prop := ∀ (I6 : Int32 → Int32 → (Nat → Int32) → Prop), (∀ (J6 : Int32 → Int32 → (Nat → Int32) → Prop), (∀ (x4 : Int32) (x5 : Int32) (cw : Nat → Int32), J6 x4 x5 cw → I6 x4 x5 cw) → ∀ (x4 : Int32) (x5 : Int32) (cw : Nat → Int32), B_X0_handOut_6 a1 a2 a3 Z J6 x4 x5 cw → I6 x4 x5 cw) → I6 x4 x5 cw
theorem F_X0_handOut_6 (a1 : Int32) (a2 : Int32) (a3 : Int32) (Z : Int32 → (Nat → Int32) → Prop) (x4 : Int32) (x5 : Int32) (cw : Nat → Int32) (h : B_X0_handOut_6 a1 a2 a3 Z (Wp_X0_handOut_6 a1 a2 a3 Z) x4 x5 cw) : Wp_X0_handOut_6 a1 a2 a3 Z x4 x5 cw := fun I6 h6 => h6 _ (fun x4 x5 cw hx => hx I6 h6) x4 x5 cw h
def Wp_X0_handOut (cw : Nat → Int32) (a1 : Int32) (a2 : Int32) (a3 : Int32) (Z : Int32 → (Nat → Int32) → Prop) : Prop := ((Wp_X0_handOut_6 a1 a2 a3 Z) (0 : Int32) a2 cw)
theorem in_X0_handOut_X0 : ∀ w ∈ u_ws RX0 TX0 3, w ∈ wsX0_handOut := fun w h => List.mem_cons_of_mem _ (List.mem_append_right _ h)
set_option maxHeartbeats 20000000 in
set_option maxRecDepth 100000 in
theorem c_X0_handOut (l : Launch) (dC : Nat → ClassId) (dI : Nat → Nat → Nat) (kI kA kC : ClassId) (co : Nat) (ca : Nat) (cv : Nat) (cr : Nat → Nat) (sz : Nat) (cg : Int32) (cw : Nat → Int32) (cV : Nat → Nat → Int32) (a1 : Int32) (a2 : Int32) (a3 : Int32) (Z : Int32 → (Nat → Int32) → Prop) (hw : Wp_X0_handOut cw a1 a2 a3 Z) : zI l yX0_handOut wsX0_handOut ({ frames := 0, cells := 0, slots := 0, locals := 0 }) dC dI kI kA kC sz 0 0 [.ref co, .int a1, .int a2, .int a3] (kCake kI kA co ca cv cr cg cw cV) (fun (r : Int32) (u : (Nat → Int32)) => Z r u) (fun (u : (Nat → Int32)) => (kCake kI kA co ca cv cr cg u cV)) := by
  refine zI.of (cc := cX0_handOut) (maxL := 6) (ty := .int) (by decide) rfl (Nat.le_of_ble_eq_true rfl) (Or.inl rfl) ?_
  intro p e s m args below meth c A Q C0 hret ls hl
  obtain ⟨hx, hb, hr, hml, hts, hown, hin, hP, hK, hD, hA, hS⟩ := C0
  have hown : s.vm.findClass RX0 = some m.cls := hown
  have hl : lv_has ls 6 [(0, .ref co), (1, .int a1), (2, .int a2), (3, .int a3)] := hl
  have key : ∀ (J6 : Int32 → Int32 → (Nat → Int32) → Prop) (hJ6 : ∀ (x4 : Int32) (x5 : Int32) (cw : Nat → Int32), J6 x4 x5 cw → ∀ (ls : Array Slot) (H : Heap) (locs : List Loc), lv_has ls 6 [(0, .ref co), (1, .int a1), (3, .int a3), (4, .int x4), (5, .int x5)] → va_P (dC, dI) vwCl (kCake kI kA co ca cv cr cg cw cV) H → va_D A (kCake kI kA co ca cv cr cg cw cV) → va_S A s.heap H locs → W p l e ({ frames := 0, cells := 0, slots := 0, locals := 0 }) s m args below meth c H locs 0 0 Q (F0 m 6 ls [])), (∀ (x4 : Int32) (x5 : Int32) (cw : Nat → Int32), B_X0_handOut_6 a1 a2 a3 Z J6 x4 x5 cw → ∀ (ls : Array Slot) (H : Heap) (locs : List Loc), lv_has ls 6 [(0, .ref co), (1, .int a1), (3, .int a3), (4, .int x4), (5, .int x5)] → va_P (dC, dI) vwCl (kCake kI kA co ca cv cr cg cw cV) H → va_D A (kCake kI kA co ca cv cr cg cw cV) → va_S A s.heap H locs → W p l e ({ frames := 0, cells := 0, slots := 0, locals := 0 }) s m args below meth c H locs 0 0 Q (F0 m 6 ls [])) := by
    intro J6 hJ6
    · intro x4 x5 cw hw ls H locs hl hP hD hS
      unfold B_X0_handOut_6 at hw
      refine lv_iload hx hb dX0_handOut_6 (lv_at hl 4 rfl) ?_
      refine lv_iload_n hx hb dX0_handOut_8 rfl (lv_at hl 2 rfl) ?_
      refine lv_icmp_gt (tgt := 40) hx hb dX0_handOut_9 (by decide) (fun c_1 => ?_) (fun c_1 => ?_)
      · have hw := hw.1 c_1
        refine lv_iload hx hb dX0_handOut_40 (lv_at hl 3 rfl) ?_
        exact hret 42 x4 cw _ _ _ (fun h => absurd h (by decide)) hw hP hD hS dX0_handOut_42
      · have hw := hw.2 c_1
        refine lv_aload_n hx hb dX0_handOut_12 rfl (lv_at hl 0 rfl) ?_
        refine va_get (D := (dC, dI)) (ci := 0) (v := .ref ca) (C := RX0) (T := TX0) (N := 3) hx hb hts in_X0_handOut_X0 hown hK hP 0 rfl rfl 1 (by decide) (hts (.fieldLink RX0 15 "CakeMarks$Cake" "owner" "[I") (List.mem_of_getElem? (i := 1) rfl)) (fun _ h9 => h9) rfl dX0_handOut_13 ?_
        refine lv_iload hx hb dX0_handOut_16 (lv_at hl 4 rfl) ?_
        obtain ⟨h_2, hw⟩ := hw
        refine va_iald hx hb hK hP 1 0 rfl rfl h_2 dX0_handOut_18 ?_
        refine lv_iconst (v := (-1 : Int32)) hx hb dX0_handOut_19 (by decide) ?_
        refine lv_icmp_ne (tgt := 34) hx hb dX0_handOut_20 (by decide) (fun c_3 => ?_) (fun c_3 => ?_)
        · have hw := hw.1 c_3
          refine lv_iinc (v := (x5 + (1 : Int32))) (lv' := [(5, .int (x5 + (1 : Int32))), (0, .ref co), (1, .int a1), (3, .int a3), (4, .int x4)]) hx hb dX0_handOut_34 hl (k := 4) rfl (by first | rfl | decide) (by decide) rfl (fun ls hl => ?_)
          refine lv_goto (tgt := 6) hx hb dX0_handOut_37 (by decide) ?_
          exact hJ6 x4 (x5 + (1 : Int32)) cw hw ls _ _ (lv_sub hl [1, 2, 3, 4, 0] rfl) hP hD hS
        · have hw := hw.2 c_3
          refine lv_aload_n hx hb dX0_handOut_23 rfl (lv_at hl 0 rfl) ?_
          refine va_get (D := (dC, dI)) (ci := 0) (v := .ref ca) (C := RX0) (T := TX0) (N := 3) hx hb hts in_X0_handOut_X0 hown hK hP 0 rfl rfl 1 (by decide) (hts (.fieldLink RX0 15 "CakeMarks$Cake" "owner" "[I") (List.mem_of_getElem? (i := 1) rfl)) (fun _ h9 => h9) rfl dX0_handOut_24 ?_
          refine lv_iload hx hb dX0_handOut_27 (lv_at hl 4 rfl) ?_
          refine lv_iload_n hx hb dX0_handOut_29 rfl (lv_at hl 1 rfl) ?_
          refine va_iast hx hb hK hP hD hS 1 0 rfl rfl h_2 dX0_handOut_30 (fun H locs hP hD hS => ?_)
          have hP : va_P (dC, dI) vwCl (kCake kI kA co ca cv cr cg (upd cw x5.toNatClampNeg a1) cV) H := hP
          have hD : va_D A (kCake kI kA co ca cv cr cg (upd cw x5.toNatClampNeg a1) cV) := hD
          refine lv_iinc (v := (x4 + (1 : Int32))) (lv' := [(4, .int (x4 + (1 : Int32))), (0, .ref co), (1, .int a1), (3, .int a3), (5, .int x5)]) hx hb dX0_handOut_31 hl (k := 3) rfl (by first | rfl | decide) (by decide) rfl (fun ls hl => ?_)
          refine lv_iinc (v := (x5 + (1 : Int32))) (lv' := [(5, .int (x5 + (1 : Int32))), (4, .int (x4 + (1 : Int32))), (0, .ref co), (1, .int a1), (3, .int a3)]) hx hb dX0_handOut_34 hl (k := 4) rfl (by first | rfl | decide) (by decide) rfl (fun ls hl => ?_)
          refine lv_goto (tgt := 6) hx hb dX0_handOut_37 (by decide) ?_
          exact hJ6 (x4 + (1 : Int32)) (x5 + (1 : Int32)) (upd cw x5.toNatClampNeg a1) hw ls _ _ (lv_sub hl [2, 3, 4, 1, 0] rfl) hP hD hS
  have hJ6 : ∀ (x4 : Int32) (x5 : Int32) (cw : Nat → Int32), Wp_X0_handOut_6 a1 a2 a3 Z x4 x5 cw → ∀ (ls : Array Slot) (H : Heap) (locs : List Loc), lv_has ls 6 [(0, .ref co), (1, .int a1), (3, .int a3), (4, .int x4), (5, .int x5)] → va_P (dC, dI) vwCl (kCake kI kA co ca cv cr cg cw cV) H → va_D A (kCake kI kA co ca cv cr cg cw cV) → va_S A s.heap H locs → W p l e ({ frames := 0, cells := 0, slots := 0, locals := 0 }) s m args below meth c H locs 0 0 Q (F0 m 6 ls []) := fun x4 x5 cw hv => hv (fun x4 x5 cw => ∀ (ls : Array Slot) (H : Heap) (locs : List Loc), lv_has ls 6 [(0, .ref co), (1, .int a1), (3, .int a3), (4, .int x4), (5, .int x5)] → va_P (dC, dI) vwCl (kCake kI kA co ca cv cr cg cw cV) H → va_D A (kCake kI kA co ca cv cr cg cw cV) → va_S A s.heap H locs → W p l e ({ frames := 0, cells := 0, slots := 0, locals := 0 }) s m args below meth c H locs 0 0 Q (F0 m 6 ls [])) (fun J6 q6 => (key J6 q6))
  unfold Wp_X0_handOut at hw
  refine lv_iconst (v := (0 : Int32)) hx hb dX0_handOut_0 (by decide) ?_
  refine lv_istore (lv' := [(4, .int (0 : Int32)), (0, .ref co), (1, .int a1), (2, .int a2), (3, .int a3)]) hx hb dX0_handOut_1 hl (by decide) rfl (fun ls hl => ?_)
  refine lv_iload_n hx hb dX0_handOut_3 rfl (lv_at hl 3 rfl) ?_
  refine lv_istore (lv' := [(5, .int a2), (4, .int (0 : Int32)), (0, .ref co), (1, .int a1), (2, .int a2), (3, .int a3)]) hx hb dX0_handOut_4 hl (by decide) rfl (fun ls hl => ?_)
  exact hJ6 (0 : Int32) a2 cw hw ls _ _ (lv_sub hl [2, 3, 5, 1, 0] rfl) hP hD hS
-- CakeMarks$Cake.takeBack(II)I
def B_X0_takeBack_5 (a1 : Int32) (a2 : Int32) (Z : Int32 → (Nat → Int32) → Prop) (J5 : Int32 → Int32 → (Nat → Int32) → Prop) (x3 : Int32) (x4 : Int32) (cw : Nat → Int32) : Prop := ((a2 < x4 → (Z x3 cw)) ∧ (¬ a2 < x4 → (vp_in x4 24 ∧ (((cw x4.toNatClampNeg) = (-1 : Int32) → (J5 x3 (x4 + (1 : Int32)) cw)) ∧ (¬ (cw x4.toNatClampNeg) = (-1 : Int32) → (J5 (x3 + (1 : Int32)) (x4 + (1 : Int32)) (upd cw x4.toNatClampNeg (-1 : Int32))))))))
def Wp_X0_takeBack_5 (a1 : Int32) (a2 : Int32) (Z : Int32 → (Nat → Int32) → Prop) (x3 : Int32) (x4 : Int32) (cw : Nat → Int32) : Prop := ∀ (I5 : Int32 → Int32 → (Nat → Int32) → Prop), (∀ (J5 : Int32 → Int32 → (Nat → Int32) → Prop), (∀ (x3 : Int32) (x4 : Int32) (cw : Nat → Int32), J5 x3 x4 cw → I5 x3 x4 cw) → ∀ (x3 : Int32) (x4 : Int32) (cw : Nat → Int32), B_X0_takeBack_5 a1 a2 Z J5 x3 x4 cw → I5 x3 x4 cw) → I5 x3 x4 cw
theorem F_X0_takeBack_5 (a1 : Int32) (a2 : Int32) (Z : Int32 → (Nat → Int32) → Prop) (x3 : Int32) (x4 : Int32) (cw : Nat → Int32) (h : B_X0_takeBack_5 a1 a2 Z (Wp_X0_takeBack_5 a1 a2 Z) x3 x4 cw) : Wp_X0_takeBack_5 a1 a2 Z x3 x4 cw := fun I5 h5 => h5 _ (fun x3 x4 cw hx => hx I5 h5) x3 x4 cw h
def Wp_X0_takeBack (cw : Nat → Int32) (a1 : Int32) (a2 : Int32) (Z : Int32 → (Nat → Int32) → Prop) : Prop := ((Wp_X0_takeBack_5 a1 a2 Z) (0 : Int32) a1 cw)
theorem in_X0_takeBack_X0 : ∀ w ∈ u_ws RX0 TX0 3, w ∈ wsX0_takeBack := fun w h => List.mem_cons_of_mem _ (List.mem_append_right _ h)
set_option maxHeartbeats 20000000 in
set_option maxRecDepth 100000 in
theorem c_X0_takeBack (l : Launch) (dC : Nat → ClassId) (dI : Nat → Nat → Nat) (kI kA kC : ClassId) (co : Nat) (ca : Nat) (cv : Nat) (cr : Nat → Nat) (sz : Nat) (cg : Int32) (cw : Nat → Int32) (cV : Nat → Nat → Int32) (a1 : Int32) (a2 : Int32) (Z : Int32 → (Nat → Int32) → Prop) (hw : Wp_X0_takeBack cw a1 a2 Z) : zI l yX0_takeBack wsX0_takeBack ({ frames := 0, cells := 0, slots := 0, locals := 0 }) dC dI kI kA kC sz 0 0 [.ref co, .int a1, .int a2] (kCake kI kA co ca cv cr cg cw cV) (fun (r : Int32) (u : (Nat → Int32)) => Z r u) (fun (u : (Nat → Int32)) => (kCake kI kA co ca cv cr cg u cV)) := by
  refine zI.of (cc := cX0_takeBack) (maxL := 5) (ty := .int) (by decide) rfl (Nat.le_of_ble_eq_true rfl) (Or.inl rfl) ?_
  intro p e s m args below meth c A Q C0 hret ls hl
  obtain ⟨hx, hb, hr, hml, hts, hown, hin, hP, hK, hD, hA, hS⟩ := C0
  have hown : s.vm.findClass RX0 = some m.cls := hown
  have hl : lv_has ls 5 [(0, .ref co), (1, .int a1), (2, .int a2)] := hl
  have key : ∀ (J5 : Int32 → Int32 → (Nat → Int32) → Prop) (hJ5 : ∀ (x3 : Int32) (x4 : Int32) (cw : Nat → Int32), J5 x3 x4 cw → ∀ (ls : Array Slot) (H : Heap) (locs : List Loc), lv_has ls 5 [(0, .ref co), (2, .int a2), (3, .int x3), (4, .int x4)] → va_P (dC, dI) vwCl (kCake kI kA co ca cv cr cg cw cV) H → va_D A (kCake kI kA co ca cv cr cg cw cV) → va_S A s.heap H locs → W p l e ({ frames := 0, cells := 0, slots := 0, locals := 0 }) s m args below meth c H locs 0 0 Q (F0 m 5 ls [])), (∀ (x3 : Int32) (x4 : Int32) (cw : Nat → Int32), B_X0_takeBack_5 a1 a2 Z J5 x3 x4 cw → ∀ (ls : Array Slot) (H : Heap) (locs : List Loc), lv_has ls 5 [(0, .ref co), (2, .int a2), (3, .int x3), (4, .int x4)] → va_P (dC, dI) vwCl (kCake kI kA co ca cv cr cg cw cV) H → va_D A (kCake kI kA co ca cv cr cg cw cV) → va_S A s.heap H locs → W p l e ({ frames := 0, cells := 0, slots := 0, locals := 0 }) s m args below meth c H locs 0 0 Q (F0 m 5 ls [])) := by
    intro J5 hJ5
    · intro x3 x4 cw hw ls H locs hl hP hD hS
      unfold B_X0_takeBack_5 at hw
      refine lv_iload hx hb dX0_takeBack_5 (lv_at hl 3 rfl) ?_
      refine lv_iload_n hx hb dX0_takeBack_7 rfl (lv_at hl 1 rfl) ?_
      refine lv_icmp_gt (tgt := 39) hx hb dX0_takeBack_8 (by decide) (fun c_1 => ?_) (fun c_1 => ?_)
      · have hw := hw.1 c_1
        refine lv_iload_n hx hb dX0_takeBack_39 rfl (lv_at hl 2 rfl) ?_
        exact hret 40 x3 cw _ _ _ (fun h => absurd h (by decide)) hw hP hD hS dX0_takeBack_40
      · have hw := hw.2 c_1
        refine lv_aload_n hx hb dX0_takeBack_11 rfl (lv_at hl 0 rfl) ?_
        refine va_get (D := (dC, dI)) (ci := 0) (v := .ref ca) (C := RX0) (T := TX0) (N := 3) hx hb hts in_X0_takeBack_X0 hown hK hP 0 rfl rfl 1 (by decide) (hts (.fieldLink RX0 15 "CakeMarks$Cake" "owner" "[I") (List.mem_of_getElem? (i := 1) rfl)) (fun _ h9 => h9) rfl dX0_takeBack_12 ?_
        refine lv_iload hx hb dX0_takeBack_15 (lv_at hl 3 rfl) ?_
        obtain ⟨h_2, hw⟩ := hw
        refine va_iald hx hb hK hP 1 0 rfl rfl h_2 dX0_takeBack_17 ?_
        refine lv_iconst (v := (-1 : Int32)) hx hb dX0_takeBack_18 (by decide) ?_
        refine lv_icmp_eq (tgt := 33) hx hb dX0_takeBack_19 (by decide) (fun c_3 => ?_) (fun c_3 => ?_)
        · have hw := hw.1 c_3
          refine lv_iinc (v := (x4 + (1 : Int32))) (lv' := [(4, .int (x4 + (1 : Int32))), (0, .ref co), (2, .int a2), (3, .int x3)]) hx hb dX0_takeBack_33 hl (k := 3) rfl (by first | rfl | decide) (by decide) rfl (fun ls hl => ?_)
          refine lv_goto (tgt := 5) hx hb dX0_takeBack_36 (by decide) ?_
          exact hJ5 x3 (x4 + (1 : Int32)) cw hw ls _ _ (lv_sub hl [1, 2, 3, 0] rfl) hP hD hS
        · have hw := hw.2 c_3
          refine lv_aload_n hx hb dX0_takeBack_22 rfl (lv_at hl 0 rfl) ?_
          refine va_get (D := (dC, dI)) (ci := 0) (v := .ref ca) (C := RX0) (T := TX0) (N := 3) hx hb hts in_X0_takeBack_X0 hown hK hP 0 rfl rfl 1 (by decide) (hts (.fieldLink RX0 15 "CakeMarks$Cake" "owner" "[I") (List.mem_of_getElem? (i := 1) rfl)) (fun _ h9 => h9) rfl dX0_takeBack_23 ?_
          refine lv_iload hx hb dX0_takeBack_26 (lv_at hl 3 rfl) ?_
          refine lv_iconst (v := (-1 : Int32)) hx hb dX0_takeBack_28 (by decide) ?_
          refine va_iast hx hb hK hP hD hS 1 0 rfl rfl h_2 dX0_takeBack_29 (fun H locs hP hD hS => ?_)
          have hP : va_P (dC, dI) vwCl (kCake kI kA co ca cv cr cg (upd cw x4.toNatClampNeg (-1 : Int32)) cV) H := hP
          have hD : va_D A (kCake kI kA co ca cv cr cg (upd cw x4.toNatClampNeg (-1 : Int32)) cV) := hD
          refine lv_iinc (v := (x3 + (1 : Int32))) (lv' := [(3, .int (x3 + (1 : Int32))), (0, .ref co), (2, .int a2), (4, .int x4)]) hx hb dX0_takeBack_30 hl (k := 2) rfl (by first | rfl | decide) (by decide) rfl (fun ls hl => ?_)
          refine lv_iinc (v := (x4 + (1 : Int32))) (lv' := [(4, .int (x4 + (1 : Int32))), (3, .int (x3 + (1 : Int32))), (0, .ref co), (2, .int a2)]) hx hb dX0_takeBack_33 hl (k := 3) rfl (by first | rfl | decide) (by decide) rfl (fun ls hl => ?_)
          refine lv_goto (tgt := 5) hx hb dX0_takeBack_36 (by decide) ?_
          exact hJ5 (x3 + (1 : Int32)) (x4 + (1 : Int32)) (upd cw x4.toNatClampNeg (-1 : Int32)) hw ls _ _ (lv_sub hl [2, 3, 1, 0] rfl) hP hD hS
  have hJ5 : ∀ (x3 : Int32) (x4 : Int32) (cw : Nat → Int32), Wp_X0_takeBack_5 a1 a2 Z x3 x4 cw → ∀ (ls : Array Slot) (H : Heap) (locs : List Loc), lv_has ls 5 [(0, .ref co), (2, .int a2), (3, .int x3), (4, .int x4)] → va_P (dC, dI) vwCl (kCake kI kA co ca cv cr cg cw cV) H → va_D A (kCake kI kA co ca cv cr cg cw cV) → va_S A s.heap H locs → W p l e ({ frames := 0, cells := 0, slots := 0, locals := 0 }) s m args below meth c H locs 0 0 Q (F0 m 5 ls []) := fun x3 x4 cw hv => hv (fun x3 x4 cw => ∀ (ls : Array Slot) (H : Heap) (locs : List Loc), lv_has ls 5 [(0, .ref co), (2, .int a2), (3, .int x3), (4, .int x4)] → va_P (dC, dI) vwCl (kCake kI kA co ca cv cr cg cw cV) H → va_D A (kCake kI kA co ca cv cr cg cw cV) → va_S A s.heap H locs → W p l e ({ frames := 0, cells := 0, slots := 0, locals := 0 }) s m args below meth c H locs 0 0 Q (F0 m 5 ls [])) (fun J5 q5 => (key J5 q5))
  unfold Wp_X0_takeBack at hw
  refine lv_iconst (v := (0 : Int32)) hx hb dX0_takeBack_0 (by decide) ?_
  refine lv_istore_n (lv' := [(3, .int (0 : Int32)), (0, .ref co), (1, .int a1), (2, .int a2)]) hx hb dX0_takeBack_1 rfl hl (by decide) rfl (fun ls hl => ?_)
  refine lv_iload_n hx hb dX0_takeBack_2 rfl (lv_at hl 2 rfl) ?_
  refine lv_istore (lv' := [(4, .int a1), (3, .int (0 : Int32)), (0, .ref co), (1, .int a1), (2, .int a2)]) hx hb dX0_takeBack_3 hl (by decide) rfl (fun ls hl => ?_)
  exact hJ5 (0 : Int32) a1 cw hw ls _ _ (lv_sub hl [2, 4, 1, 0] rfl) hP hD hS
-- CakeMarks$Cake.findCut(III)I
def B_X0_findCut_28 (cV : Nat → Nat → Int32) (a1 : Int32) (a2 : Int32) (a3 : Int32) (Z : Int32 → Prop) (J28 : Int32 → Int32 → Int32 → Int32 → Int32 → Prop) (x4 : Int32) (x5 : Int32) (x6 : Int32) (x7 : Int32) (x8 : Int32) : Prop := ((a3 < x8 → (Z x6)) ∧ (¬ a3 < x8 → (vp_in a1 4 ∧ (vp_in (x8 - (1 : Int32)) 24 ∧ ((x7 ≤ (if 0 ≤ (x4 - ((2 : Int32) * (x5 + (cV a1.toNatClampNeg (x8 - (1 : Int32)).toNatClampNeg)))) then (x4 - ((2 : Int32) * (x5 + (cV a1.toNatClampNeg (x8 - (1 : Int32)).toNatClampNeg)))) else 0 - (x4 - ((2 : Int32) * (x5 + (cV a1.toNatClampNeg (x8 - (1 : Int32)).toNatClampNeg))))) → (J28 x4 (x5 + (cV a1.toNatClampNeg (x8 - (1 : Int32)).toNatClampNeg)) x6 x7 (x8 + (1 : Int32)))) ∧ (¬ x7 ≤ (if 0 ≤ (x4 - ((2 : Int32) * (x5 + (cV a1.toNatClampNeg (x8 - (1 : Int32)).toNatClampNeg)))) then (x4 - ((2 : Int32) * (x5 + (cV a1.toNatClampNeg (x8 - (1 : Int32)).toNatClampNeg)))) else 0 - (x4 - ((2 : Int32) * (x5 + (cV a1.toNatClampNeg (x8 - (1 : Int32)).toNatClampNeg))))) → (J28 x4 (x5 + (cV a1.toNatClampNeg (x8 - (1 : Int32)).toNatClampNeg)) x8 (if 0 ≤ (x4 - ((2 : Int32) * (x5 + (cV a1.toNatClampNeg (x8 - (1 : Int32)).toNatClampNeg)))) then (x4 - ((2 : Int32) * (x5 + (cV a1.toNatClampNeg (x8 - (1 : Int32)).toNatClampNeg)))) else 0 - (x4 - ((2 : Int32) * (x5 + (cV a1.toNatClampNeg (x8 - (1 : Int32)).toNatClampNeg))))) (x8 + (1 : Int32)))))))))
def Wp_X0_findCut_28 (cV : Nat → Nat → Int32) (a1 : Int32) (a2 : Int32) (a3 : Int32) (Z : Int32 → Prop) (x4 : Int32) (x5 : Int32) (x6 : Int32) (x7 : Int32) (x8 : Int32) : Prop := ∀ (I28 : Int32 → Int32 → Int32 → Int32 → Int32 → Prop), (∀ (J28 : Int32 → Int32 → Int32 → Int32 → Int32 → Prop), (∀ (x4 : Int32) (x5 : Int32) (x6 : Int32) (x7 : Int32) (x8 : Int32), J28 x4 x5 x6 x7 x8 → I28 x4 x5 x6 x7 x8) → ∀ (x4 : Int32) (x5 : Int32) (x6 : Int32) (x7 : Int32) (x8 : Int32), B_X0_findCut_28 cV a1 a2 a3 Z J28 x4 x5 x6 x7 x8 → I28 x4 x5 x6 x7 x8) → I28 x4 x5 x6 x7 x8
theorem F_X0_findCut_28 (cV : Nat → Nat → Int32) (a1 : Int32) (a2 : Int32) (a3 : Int32) (Z : Int32 → Prop) (x4 : Int32) (x5 : Int32) (x6 : Int32) (x7 : Int32) (x8 : Int32) (h : B_X0_findCut_28 cV a1 a2 a3 Z (Wp_X0_findCut_28 cV a1 a2 a3 Z) x4 x5 x6 x7 x8) : Wp_X0_findCut_28 cV a1 a2 a3 Z x4 x5 x6 x7 x8 := fun I28 h28 => h28 _ (fun x4 x5 x6 x7 x8 hx => hx I28 h28) x4 x5 x6 x7 x8 h
def Wp_X0_findCut (cV : Nat → Nat → Int32) (a1 : Int32) (a2 : Int32) (a3 : Int32) (Z : Int32 → Prop) : Prop := (Wp_X0_spanWorth cV a1 a2 a3 (fun r_1 => ((Wp_X0_findCut_28 cV a1 a2 a3 Z) r_1 (0 : Int32) (a2 + (1 : Int32)) (r_1 + (1 : Int32)) (a2 + (1 : Int32)))))
theorem in_X0_findCut_X0 : ∀ w ∈ u_ws RX0 TX0 3, w ∈ wsX0_findCut := fun w h => List.mem_cons_of_mem _ (List.mem_append_right _ h)
set_option maxHeartbeats 20000000 in
set_option maxRecDepth 100000 in
theorem c_X0_findCut (l : Launch) (dC : Nat → ClassId) (dI : Nat → Nat → Nat) (kI kA kC : ClassId) (co : Nat) (ca : Nat) (cv : Nat) (cr : Nat → Nat) (sz : Nat) (cg : Int32) (cw : Nat → Int32) (cV : Nat → Nat → Int32) (a1 : Int32) (a2 : Int32) (a3 : Int32) (Z : Int32 → Prop) (hw : Wp_X0_findCut cV a1 a2 a3 Z) : zI l yX0_findCut wsX0_findCut ({ frames := 1, cells := 0, slots := 0, locals := 25 }) dC dI kI kA kC sz 0 0 [.ref co, .int a1, .int a2, .int a3] (kCake kI kA co ca cv cr cg cw cV) (fun (r : Int32) (u : Unit) => Z r ) (fun (u : Unit) => (kCake kI kA co ca cv cr cg cw cV)) := by
  refine zI.of (cc := cX0_findCut) (maxL := 10) (ty := .int) (by decide) rfl (Nat.le_of_ble_eq_true rfl) (Or.inl rfl) ?_
  intro p e s m args below meth c A Q C0 hret ls hl
  obtain ⟨hx, hb, hr, hml, hts, hown, hin, hP, hK, hD, hA, hS⟩ := C0
  have hown : s.vm.findClass RX0 = some m.cls := hown
  have hl : lv_has ls 10 [(0, .ref co), (1, .int a1), (2, .int a2), (3, .int a3)] := hl
  have key : ∀ (J28 : Int32 → Int32 → Int32 → Int32 → Int32 → Prop) (hJ28 : ∀ (x4 : Int32) (x5 : Int32) (x6 : Int32) (x7 : Int32) (x8 : Int32), J28 x4 x5 x6 x7 x8 → ∀ (ls : Array Slot) (H : Heap) (locs : List Loc), lv_has ls 10 [(0, .ref co), (1, .int a1), (3, .int a3), (4, .int x4), (5, .int x5), (6, .int x6), (7, .int x7), (8, .int x8)] → va_P (dC, dI) vwCl (kCake kI kA co ca cv cr cg cw cV) H → va_D A (kCake kI kA co ca cv cr cg cw cV) → va_S A s.heap H locs → W p l e ({ frames := 1, cells := 0, slots := 0, locals := 25 }) s m args below meth c H locs 0 0 Q (F0 m 28 ls [])), (∀ (x4 : Int32) (x5 : Int32) (x6 : Int32) (x7 : Int32) (x8 : Int32), B_X0_findCut_28 cV a1 a2 a3 Z J28 x4 x5 x6 x7 x8 → ∀ (ls : Array Slot) (H : Heap) (locs : List Loc), lv_has ls 10 [(0, .ref co), (1, .int a1), (3, .int a3), (4, .int x4), (5, .int x5), (6, .int x6), (7, .int x7), (8, .int x8)] → va_P (dC, dI) vwCl (kCake kI kA co ca cv cr cg cw cV) H → va_D A (kCake kI kA co ca cv cr cg cw cV) → va_S A s.heap H locs → W p l e ({ frames := 1, cells := 0, slots := 0, locals := 25 }) s m args below meth c H locs 0 0 Q (F0 m 28 ls [])) := by
    intro J28 hJ28
    · intro x4 x5 x6 x7 x8 hw ls H locs hl hP hD hS
      unfold B_X0_findCut_28 at hw
      refine lv_iload hx hb dX0_findCut_28 (lv_at hl 7 rfl) ?_
      refine lv_iload_n hx hb dX0_findCut_30 rfl (lv_at hl 2 rfl) ?_
      refine lv_icmp_gt (tgt := 83) hx hb dX0_findCut_31 (by decide) (fun c_2 => ?_) (fun c_2 => ?_)
      · have hw := hw.1 c_2
        refine lv_iload hx hb dX0_findCut_83 (lv_at hl 5 rfl) ?_
        exact hret 85 x6 () _ _ _ (fun h => absurd h (by decide)) hw hP hD hS dX0_findCut_85
      · have hw := hw.2 c_2
        refine lv_iload hx hb dX0_findCut_34 (lv_at hl 4 rfl) ?_
        refine lv_aload_n hx hb dX0_findCut_36 rfl (lv_at hl 0 rfl) ?_
        refine va_get (D := (dC, dI)) (ci := 0) (v := .ref cv) (C := RX0) (T := TX0) (N := 3) hx hb hts in_X0_findCut_X0 hown hK hP 0 rfl rfl 2 (by decide) (hts (.fieldLink RX0 21 "CakeMarks$Cake" "values" "[[I") (List.mem_of_getElem? (i := 1) rfl)) (fun _ h9 => h9) rfl dX0_findCut_37 ?_
        refine lv_iload_n hx hb dX0_findCut_40 rfl (lv_at hl 1 rfl) ?_
        obtain ⟨h_3, hw⟩ := hw
        refine zald hx hb hK hP 2 1 rfl rfl rfl h_3 rfl dX0_findCut_41 ?_
        refine lv_iload hx hb dX0_findCut_42 (lv_at hl 7 rfl) ?_
        refine lv_iconst (v := (1 : Int32)) hx hb dX0_findCut_44 (by decide) ?_
        refine lv_isub hx hb dX0_findCut_45 ?_
        obtain ⟨h_4, hw⟩ := hw
        refine va_iald hx hb hK hP (3 + a1.toNatClampNeg) 0 (co_4 (P := fun g => (kCake kI kA co ca cv cr cg cw cV)[3 + g]? = some (cr g, zi kI 24 (cV g))) rfl rfl rfl rfl (z_lt h_3)) rfl h_4 dX0_findCut_46 ?_
        refine lv_iadd hx hb dX0_findCut_47 ?_
        refine lv_istore (lv' := [(5, .int (x5 + (cV a1.toNatClampNeg (x8 - (1 : Int32)).toNatClampNeg))), (0, .ref co), (1, .int a1), (3, .int a3), (4, .int x4), (6, .int x6), (7, .int x7), (8, .int x8)]) hx hb dX0_findCut_48 hl (by decide) rfl (fun ls hl => ?_)
        refine lv_iload hx hb dX0_findCut_50 (lv_at hl 4 rfl) ?_
        refine lv_iconst (v := (2 : Int32)) hx hb dX0_findCut_52 (by decide) ?_
        refine lv_iload hx hb dX0_findCut_53 (lv_at hl 0 rfl) ?_
        refine lv_imul hx hb dX0_findCut_55 ?_
        refine lv_isub hx hb dX0_findCut_56 ?_
        refine va_mabs hx hb (hml.trans hl.1.symm) hown (hts (.methodLink RX0 50 Lib.Math.abs.name) (List.mem_of_getElem? (i := 2) rfl)) (hts (.static Lib.Math.abs.name) (List.mem_of_getElem? (i := 3) rfl)) (hts (.initialized "java/lang/Math") (List.mem_of_getElem? (i := 4) rfl)) (hts (.code Lib.Math.abs.name Lib.Math.abs.code 1 (some .int)) (List.mem_of_getElem? (i := 5) rfl)) (Nat.le_of_ble_eq_true rfl) (Nat.le_of_ble_eq_true rfl) (Nat.zero_le _) (Nat.zero_le _) dX0_findCut_57 ?_
        refine lv_istore (lv' := [(9, .int (if 0 ≤ (x4 - ((2 : Int32) * (x5 + (cV a1.toNatClampNeg (x8 - (1 : Int32)).toNatClampNeg)))) then (x4 - ((2 : Int32) * (x5 + (cV a1.toNatClampNeg (x8 - (1 : Int32)).toNatClampNeg)))) else 0 - (x4 - ((2 : Int32) * (x5 + (cV a1.toNatClampNeg (x8 - (1 : Int32)).toNatClampNeg)))))), (5, .int (x5 + (cV a1.toNatClampNeg (x8 - (1 : Int32)).toNatClampNeg))), (0, .ref co), (1, .int a1), (3, .int a3), (4, .int x4), (6, .int x6), (7, .int x7), (8, .int x8)]) hx hb dX0_findCut_60 hl (by decide) rfl (fun ls hl => ?_)
        refine lv_iload hx hb dX0_findCut_62 (lv_at hl 0 rfl) ?_
        refine lv_iload hx hb dX0_findCut_64 (lv_at hl 7 rfl) ?_
        refine lv_icmp_ge (tgt := 77) hx hb dX0_findCut_66 (by decide) (fun c_5 => ?_) (fun c_5 => ?_)
        · have hw := hw.1 c_5
          refine lv_iinc (v := (x8 + (1 : Int32))) (lv' := [(8, .int (x8 + (1 : Int32))), (9, .int (if 0 ≤ (x4 - ((2 : Int32) * (x5 + (cV a1.toNatClampNeg (x8 - (1 : Int32)).toNatClampNeg)))) then (x4 - ((2 : Int32) * (x5 + (cV a1.toNatClampNeg (x8 - (1 : Int32)).toNatClampNeg)))) else 0 - (x4 - ((2 : Int32) * (x5 + (cV a1.toNatClampNeg (x8 - (1 : Int32)).toNatClampNeg)))))), (5, .int (x5 + (cV a1.toNatClampNeg (x8 - (1 : Int32)).toNatClampNeg))), (0, .ref co), (1, .int a1), (3, .int a3), (4, .int x4), (6, .int x6), (7, .int x7)]) hx hb dX0_findCut_77 hl (k := 8) rfl (by first | rfl | decide) (by decide) rfl (fun ls hl => ?_)
          refine lv_goto (tgt := 28) hx hb dX0_findCut_80 (by decide) ?_
          exact hJ28 x4 (x5 + (cV a1.toNatClampNeg (x8 - (1 : Int32)).toNatClampNeg)) x6 x7 (x8 + (1 : Int32)) hw ls _ _ (lv_sub hl [3, 4, 5, 6, 2, 7, 8, 0] rfl) hP hD hS
        · have hw := hw.2 c_5
          refine lv_iload hx hb dX0_findCut_69 (lv_at hl 0 rfl) ?_
          refine lv_istore (lv' := [(7, .int (if 0 ≤ (x4 - ((2 : Int32) * (x5 + (cV a1.toNatClampNeg (x8 - (1 : Int32)).toNatClampNeg)))) then (x4 - ((2 : Int32) * (x5 + (cV a1.toNatClampNeg (x8 - (1 : Int32)).toNatClampNeg)))) else 0 - (x4 - ((2 : Int32) * (x5 + (cV a1.toNatClampNeg (x8 - (1 : Int32)).toNatClampNeg)))))), (9, .int (if 0 ≤ (x4 - ((2 : Int32) * (x5 + (cV a1.toNatClampNeg (x8 - (1 : Int32)).toNatClampNeg)))) then (x4 - ((2 : Int32) * (x5 + (cV a1.toNatClampNeg (x8 - (1 : Int32)).toNatClampNeg)))) else 0 - (x4 - ((2 : Int32) * (x5 + (cV a1.toNatClampNeg (x8 - (1 : Int32)).toNatClampNeg)))))), (5, .int (x5 + (cV a1.toNatClampNeg (x8 - (1 : Int32)).toNatClampNeg))), (0, .ref co), (1, .int a1), (3, .int a3), (4, .int x4), (6, .int x6), (8, .int x8)]) hx hb dX0_findCut_71 hl (by decide) rfl (fun ls hl => ?_)
          refine lv_iload hx hb dX0_findCut_73 (lv_at hl 8 rfl) ?_
          refine lv_istore (lv' := [(6, .int x8), (7, .int (if 0 ≤ (x4 - ((2 : Int32) * (x5 + (cV a1.toNatClampNeg (x8 - (1 : Int32)).toNatClampNeg)))) then (x4 - ((2 : Int32) * (x5 + (cV a1.toNatClampNeg (x8 - (1 : Int32)).toNatClampNeg)))) else 0 - (x4 - ((2 : Int32) * (x5 + (cV a1.toNatClampNeg (x8 - (1 : Int32)).toNatClampNeg)))))), (9, .int (if 0 ≤ (x4 - ((2 : Int32) * (x5 + (cV a1.toNatClampNeg (x8 - (1 : Int32)).toNatClampNeg)))) then (x4 - ((2 : Int32) * (x5 + (cV a1.toNatClampNeg (x8 - (1 : Int32)).toNatClampNeg)))) else 0 - (x4 - ((2 : Int32) * (x5 + (cV a1.toNatClampNeg (x8 - (1 : Int32)).toNatClampNeg)))))), (5, .int (x5 + (cV a1.toNatClampNeg (x8 - (1 : Int32)).toNatClampNeg))), (0, .ref co), (1, .int a1), (3, .int a3), (4, .int x4), (8, .int x8)]) hx hb dX0_findCut_75 hl (by decide) rfl (fun ls hl => ?_)
          refine lv_iinc (v := (x8 + (1 : Int32))) (lv' := [(8, .int (x8 + (1 : Int32))), (6, .int x8), (7, .int (if 0 ≤ (x4 - ((2 : Int32) * (x5 + (cV a1.toNatClampNeg (x8 - (1 : Int32)).toNatClampNeg)))) then (x4 - ((2 : Int32) * (x5 + (cV a1.toNatClampNeg (x8 - (1 : Int32)).toNatClampNeg)))) else 0 - (x4 - ((2 : Int32) * (x5 + (cV a1.toNatClampNeg (x8 - (1 : Int32)).toNatClampNeg)))))), (9, .int (if 0 ≤ (x4 - ((2 : Int32) * (x5 + (cV a1.toNatClampNeg (x8 - (1 : Int32)).toNatClampNeg)))) then (x4 - ((2 : Int32) * (x5 + (cV a1.toNatClampNeg (x8 - (1 : Int32)).toNatClampNeg)))) else 0 - (x4 - ((2 : Int32) * (x5 + (cV a1.toNatClampNeg (x8 - (1 : Int32)).toNatClampNeg)))))), (5, .int (x5 + (cV a1.toNatClampNeg (x8 - (1 : Int32)).toNatClampNeg))), (0, .ref co), (1, .int a1), (3, .int a3), (4, .int x4)]) hx hb dX0_findCut_77 hl (k := 8) rfl (by first | rfl | decide) (by decide) rfl (fun ls hl => ?_)
          refine lv_goto (tgt := 28) hx hb dX0_findCut_80 (by decide) ?_
          exact hJ28 x4 (x5 + (cV a1.toNatClampNeg (x8 - (1 : Int32)).toNatClampNeg)) x8 (if 0 ≤ (x4 - ((2 : Int32) * (x5 + (cV a1.toNatClampNeg (x8 - (1 : Int32)).toNatClampNeg)))) then (x4 - ((2 : Int32) * (x5 + (cV a1.toNatClampNeg (x8 - (1 : Int32)).toNatClampNeg)))) else 0 - (x4 - ((2 : Int32) * (x5 + (cV a1.toNatClampNeg (x8 - (1 : Int32)).toNatClampNeg))))) (x8 + (1 : Int32)) hw ls _ _ (lv_sub hl [5, 6, 7, 8, 4, 1, 2, 0] rfl) hP hD hS
  have hJ28 : ∀ (x4 : Int32) (x5 : Int32) (x6 : Int32) (x7 : Int32) (x8 : Int32), Wp_X0_findCut_28 cV a1 a2 a3 Z x4 x5 x6 x7 x8 → ∀ (ls : Array Slot) (H : Heap) (locs : List Loc), lv_has ls 10 [(0, .ref co), (1, .int a1), (3, .int a3), (4, .int x4), (5, .int x5), (6, .int x6), (7, .int x7), (8, .int x8)] → va_P (dC, dI) vwCl (kCake kI kA co ca cv cr cg cw cV) H → va_D A (kCake kI kA co ca cv cr cg cw cV) → va_S A s.heap H locs → W p l e ({ frames := 1, cells := 0, slots := 0, locals := 25 }) s m args below meth c H locs 0 0 Q (F0 m 28 ls []) := fun x4 x5 x6 x7 x8 hv => hv (fun x4 x5 x6 x7 x8 => ∀ (ls : Array Slot) (H : Heap) (locs : List Loc), lv_has ls 10 [(0, .ref co), (1, .int a1), (3, .int a3), (4, .int x4), (5, .int x5), (6, .int x6), (7, .int x7), (8, .int x8)] → va_P (dC, dI) vwCl (kCake kI kA co ca cv cr cg cw cV) H → va_D A (kCake kI kA co ca cv cr cg cw cV) → va_S A s.heap H locs → W p l e ({ frames := 1, cells := 0, slots := 0, locals := 25 }) s m args below meth c H locs 0 0 Q (F0 m 28 ls [])) (fun J28 q28 => (key J28 q28))
  unfold Wp_X0_findCut at hw
  refine lv_aload_n hx hb dX0_findCut_0 rfl (lv_at hl 0 rfl) ?_
  refine lv_iload_n hx hb dX0_findCut_1 rfl (lv_at hl 1 rfl) ?_
  refine lv_iload_n hx hb dX0_findCut_2 rfl (lv_at hl 2 rfl) ?_
  refine lv_iload_n hx hb dX0_findCut_3 rfl (lv_at hl 3 rfl) ?_
  refine zcallI (ci := 0) (q0 := 0) (As := [.int a1, .int a2, .int a3]) (rest := []) (wr := ([] : va_W)) (Wn := fun u => (kCake kI kA co ca cv cr cg cw cV)) ⟨hx, hb, hml, hown, hts⟩ (c_X0_spanWorth l dC dI kI kA kC co ca cv cr _ cg cw cV a1 a2 a3 _ hw) (cwV 3 hts gX0_findCut_X0_spanWorth rfl rfl rfl (by decide +kernel) ⟨Nat.le_of_ble_eq_true rfl, Nat.le_of_ble_eq_true rfl⟩) hK hP hD hS hA [0, 1, 2, 3, 4, 5, 6] [] [0, 1, 2, 3, 4, 5, 6] rfl rfl (by decide) (by decide) (by decide) (fun u => rfl) (by decide) rfl rfl rfl rfl hl.1 rfl (Nat.le_of_ble_eq_true rfl) dX0_findCut_4 ⟨Nat.zero_le _, Nat.zero_le _⟩ (fun r_1 u H locs hw hP hD hS => ?_)
  have hP : va_P (dC, dI) vwCl (kCake kI kA co ca cv cr cg cw cV) H := hP
  have hD : va_D A (kCake kI kA co ca cv cr cg cw cV) := hD
  refine lv_istore (lv' := [(4, .int r_1), (0, .ref co), (1, .int a1), (2, .int a2), (3, .int a3)]) hx hb dX0_findCut_7 hl (by decide) rfl (fun ls hl => ?_)
  refine lv_iconst (v := (0 : Int32)) hx hb dX0_findCut_9 (by decide) ?_
  refine lv_istore (lv' := [(5, .int (0 : Int32)), (4, .int r_1), (0, .ref co), (1, .int a1), (2, .int a2), (3, .int a3)]) hx hb dX0_findCut_10 hl (by decide) rfl (fun ls hl => ?_)
  refine lv_iload_n hx hb dX0_findCut_12 rfl (lv_at hl 4 rfl) ?_
  refine lv_iconst (v := (1 : Int32)) hx hb dX0_findCut_13 (by decide) ?_
  refine lv_iadd hx hb dX0_findCut_14 ?_
  refine lv_istore (lv' := [(6, .int (a2 + (1 : Int32))), (5, .int (0 : Int32)), (4, .int r_1), (0, .ref co), (1, .int a1), (2, .int a2), (3, .int a3)]) hx hb dX0_findCut_15 hl (by decide) rfl (fun ls hl => ?_)
  refine lv_iload hx hb dX0_findCut_17 (lv_at hl 2 rfl) ?_
  refine lv_iconst (v := (1 : Int32)) hx hb dX0_findCut_19 (by decide) ?_
  refine lv_iadd hx hb dX0_findCut_20 ?_
  refine lv_istore (lv' := [(7, .int (r_1 + (1 : Int32))), (6, .int (a2 + (1 : Int32))), (5, .int (0 : Int32)), (4, .int r_1), (0, .ref co), (1, .int a1), (2, .int a2), (3, .int a3)]) hx hb dX0_findCut_21 hl (by decide) rfl (fun ls hl => ?_)
  refine lv_iload_n hx hb dX0_findCut_23 rfl (lv_at hl 6 rfl) ?_
  refine lv_iconst (v := (1 : Int32)) hx hb dX0_findCut_24 (by decide) ?_
  refine lv_iadd hx hb dX0_findCut_25 ?_
  refine lv_istore (lv' := [(8, .int (a2 + (1 : Int32))), (7, .int (r_1 + (1 : Int32))), (6, .int (a2 + (1 : Int32))), (5, .int (0 : Int32)), (4, .int r_1), (0, .ref co), (1, .int a1), (2, .int a2), (3, .int a3)]) hx hb dX0_findCut_26 hl (by decide) rfl (fun ls hl => ?_)
  exact hJ28 r_1 (0 : Int32) (a2 + (1 : Int32)) (r_1 + (1 : Int32)) (a2 + (1 : Int32)) hw ls _ _ (lv_sub hl [5, 6, 8, 4, 3, 2, 1, 0] rfl) hP hD hS
-- CakeMarks$Cake.trimPiece(II)I
def B_X0_trimPiece_22 (cV : Nat → Nat → Int32) (a1 : Int32) (a2 : Int32) (Z : Int32 → (Nat → Int32) → Prop) (J22 : Int32 → Int32 → Int32 → Int32 → (Nat → Int32) → Prop) (x3 : Int32) (x4 : Int32) (x5 : Int32) (x6 : Int32) (cw : Nat → Int32) : Prop := ((x6 < (0 : Int32) → (Z x5 cw)) ∧ (¬ x6 < (0 : Int32) → ((x4 ≤ x3 → (Z x5 cw)) ∧ (¬ x4 ≤ x3 → (vp_in x6 24 ∧ ((¬ (cw x6.toNatClampNeg) = a1 → (J22 x3 x4 x5 (x6 + (-1 : Int32)) cw)) ∧ ((cw x6.toNatClampNeg) = a1 → (vp_in a2 4 ∧ (J22 x3 (x4 - (cV a2.toNatClampNeg x6.toNatClampNeg)) (x5 + (1 : Int32)) (x6 + (-1 : Int32)) (upd cw x6.toNatClampNeg (-1 : Int32)))))))))))
def Wp_X0_trimPiece_22 (cV : Nat → Nat → Int32) (a1 : Int32) (a2 : Int32) (Z : Int32 → (Nat → Int32) → Prop) (x3 : Int32) (x4 : Int32) (x5 : Int32) (x6 : Int32) (cw : Nat → Int32) : Prop := ∀ (I22 : Int32 → Int32 → Int32 → Int32 → (Nat → Int32) → Prop), (∀ (J22 : Int32 → Int32 → Int32 → Int32 → (Nat → Int32) → Prop), (∀ (x3 : Int32) (x4 : Int32) (x5 : Int32) (x6 : Int32) (cw : Nat → Int32), J22 x3 x4 x5 x6 cw → I22 x3 x4 x5 x6 cw) → ∀ (x3 : Int32) (x4 : Int32) (x5 : Int32) (x6 : Int32) (cw : Nat → Int32), B_X0_trimPiece_22 cV a1 a2 Z J22 x3 x4 x5 x6 cw → I22 x3 x4 x5 x6 cw) → I22 x3 x4 x5 x6 cw
theorem F_X0_trimPiece_22 (cV : Nat → Nat → Int32) (a1 : Int32) (a2 : Int32) (Z : Int32 → (Nat → Int32) → Prop) (x3 : Int32) (x4 : Int32) (x5 : Int32) (x6 : Int32) (cw : Nat → Int32) (h : B_X0_trimPiece_22 cV a1 a2 Z (Wp_X0_trimPiece_22 cV a1 a2 Z) x3 x4 x5 x6 cw) : Wp_X0_trimPiece_22 cV a1 a2 Z x3 x4 x5 x6 cw := fun I22 h22 => h22 _ (fun x3 x4 x5 x6 cw hx => hx I22 h22) x3 x4 x5 x6 cw h
def Wp_X0_trimPiece (cw : Nat → Int32) (cV : Nat → Nat → Int32) (a1 : Int32) (a2 : Int32) (Z : Int32 → (Nat → Int32) → Prop) : Prop := (Wp_X0_worth cw cV a2 a2 (fun r_1 => (Wp_X0_worth cw cV a2 a1 (fun r_2 => ((Wp_X0_trimPiece_22 cV a1 a2 Z) r_1 r_2 (0 : Int32) (23 : Int32) cw)))))
theorem in_X0_trimPiece_X0 : ∀ w ∈ u_ws RX0 TX0 3, w ∈ wsX0_trimPiece := fun w h => List.mem_cons_of_mem _ (List.mem_append_right _ h)
set_option maxHeartbeats 20000000 in
set_option maxRecDepth 100000 in
theorem c_X0_trimPiece (l : Launch) (dC : Nat → ClassId) (dI : Nat → Nat → Nat) (kI kA kC : ClassId) (co : Nat) (ca : Nat) (cv : Nat) (cr : Nat → Nat) (sz : Nat) (cg : Int32) (cw : Nat → Int32) (cV : Nat → Nat → Int32) (a1 : Int32) (a2 : Int32) (Z : Int32 → (Nat → Int32) → Prop) (hw : Wp_X0_trimPiece cw cV a1 a2 Z) : zI l yX0_trimPiece wsX0_trimPiece ({ frames := 2, cells := 0, slots := 0, locals := 48 }) dC dI kI kA kC sz 0 0 [.ref co, .int a1, .int a2] (kCake kI kA co ca cv cr cg cw cV) (fun (r : Int32) (u : (Nat → Int32)) => Z r u) (fun (u : (Nat → Int32)) => (kCake kI kA co ca cv cr cg u cV)) := by
  refine zI.of (cc := cX0_trimPiece) (maxL := 7) (ty := .int) (by decide) rfl (Nat.le_of_ble_eq_true rfl) (Or.inl rfl) ?_
  intro p e s m args below meth c A Q C0 hret ls hl
  obtain ⟨hx, hb, hr, hml, hts, hown, hin, hP, hK, hD, hA, hS⟩ := C0
  have hown : s.vm.findClass RX0 = some m.cls := hown
  have hl : lv_has ls 7 [(0, .ref co), (1, .int a1), (2, .int a2)] := hl
  have key : ∀ (J22 : Int32 → Int32 → Int32 → Int32 → (Nat → Int32) → Prop) (hJ22 : ∀ (x3 : Int32) (x4 : Int32) (x5 : Int32) (x6 : Int32) (cw : Nat → Int32), J22 x3 x4 x5 x6 cw → ∀ (ls : Array Slot) (H : Heap) (locs : List Loc), lv_has ls 7 [(0, .ref co), (1, .int a1), (2, .int a2), (3, .int x3), (4, .int x4), (5, .int x5), (6, .int x6)] → va_P (dC, dI) vwCl (kCake kI kA co ca cv cr cg cw cV) H → va_D A (kCake kI kA co ca cv cr cg cw cV) → va_S A s.heap H locs → W p l e ({ frames := 2, cells := 0, slots := 0, locals := 48 }) s m args below meth c H locs 0 0 Q (F0 m 22 ls [])), (∀ (x3 : Int32) (x4 : Int32) (x5 : Int32) (x6 : Int32) (cw : Nat → Int32), B_X0_trimPiece_22 cV a1 a2 Z J22 x3 x4 x5 x6 cw → ∀ (ls : Array Slot) (H : Heap) (locs : List Loc), lv_has ls 7 [(0, .ref co), (1, .int a1), (2, .int a2), (3, .int x3), (4, .int x4), (5, .int x5), (6, .int x6)] → va_P (dC, dI) vwCl (kCake kI kA co ca cv cr cg cw cV) H → va_D A (kCake kI kA co ca cv cr cg cw cV) → va_S A s.heap H locs → W p l e ({ frames := 2, cells := 0, slots := 0, locals := 48 }) s m args below meth c H locs 0 0 Q (F0 m 22 ls [])) := by
    intro J22 hJ22
    · intro x3 x4 x5 x6 cw hw ls H locs hl hP hD hS
      unfold B_X0_trimPiece_22 at hw
      refine lv_iload hx hb dX0_trimPiece_22 (lv_at hl 6 rfl) ?_
      refine lv_if_lt (tgt := 75) hx hb dX0_trimPiece_24 (by decide) (fun c_3 => ?_) (fun c_3 => ?_)
      · have hw := hw.1 c_3
        refine lv_iload hx hb dX0_trimPiece_75 (lv_at hl 5 rfl) ?_
        exact hret 77 x5 cw _ _ _ (fun h => absurd h (by decide)) hw hP hD hS dX0_trimPiece_77
      · have hw := hw.2 c_3
        refine lv_iload hx hb dX0_trimPiece_27 (lv_at hl 4 rfl) ?_
        refine lv_iload_n hx hb dX0_trimPiece_29 rfl (lv_at hl 3 rfl) ?_
        refine lv_icmp_le (tgt := 75) hx hb dX0_trimPiece_30 (by decide) (fun c_4 => ?_) (fun c_4 => ?_)
        · have hw := hw.1 c_4
          refine lv_iload hx hb dX0_trimPiece_75 (lv_at hl 5 rfl) ?_
          exact hret 77 x5 cw _ _ _ (fun h => absurd h (by decide)) hw hP hD hS dX0_trimPiece_77
        · have hw := hw.2 c_4
          refine lv_aload_n hx hb dX0_trimPiece_33 rfl (lv_at hl 0 rfl) ?_
          refine va_get (D := (dC, dI)) (ci := 0) (v := .ref ca) (C := RX0) (T := TX0) (N := 3) hx hb hts in_X0_trimPiece_X0 hown hK hP 0 rfl rfl 1 (by decide) (hts (.fieldLink RX0 15 "CakeMarks$Cake" "owner" "[I") (List.mem_of_getElem? (i := 1) rfl)) (fun _ h9 => h9) rfl dX0_trimPiece_34 ?_
          refine lv_iload hx hb dX0_trimPiece_37 (lv_at hl 6 rfl) ?_
          obtain ⟨h_5, hw⟩ := hw
          refine va_iald hx hb hK hP 1 0 rfl rfl h_5 dX0_trimPiece_39 ?_
          refine lv_iload_n hx hb dX0_trimPiece_40 rfl (lv_at hl 1 rfl) ?_
          refine lv_icmp_ne (tgt := 69) hx hb dX0_trimPiece_41 (by decide) (fun c_6 => ?_) (fun c_6 => ?_)
          · have hw := hw.1 c_6
            refine lv_iinc (v := (x6 + (-1 : Int32))) (lv' := [(6, .int (x6 + (-1 : Int32))), (0, .ref co), (1, .int a1), (2, .int a2), (3, .int x3), (4, .int x4), (5, .int x5)]) hx hb dX0_trimPiece_69 hl (k := 6) rfl (by first | rfl | decide) (by decide) rfl (fun ls hl => ?_)
            refine lv_goto (tgt := 22) hx hb dX0_trimPiece_72 (by decide) ?_
            exact hJ22 x3 x4 x5 (x6 + (-1 : Int32)) cw hw ls _ _ (lv_sub hl [1, 2, 3, 4, 5, 6, 0] rfl) hP hD hS
          · have hw := hw.2 c_6
            refine lv_aload_n hx hb dX0_trimPiece_44 rfl (lv_at hl 0 rfl) ?_
            refine va_get (D := (dC, dI)) (ci := 0) (v := .ref ca) (C := RX0) (T := TX0) (N := 3) hx hb hts in_X0_trimPiece_X0 hown hK hP 0 rfl rfl 1 (by decide) (hts (.fieldLink RX0 15 "CakeMarks$Cake" "owner" "[I") (List.mem_of_getElem? (i := 1) rfl)) (fun _ h9 => h9) rfl dX0_trimPiece_45 ?_
            refine lv_iload hx hb dX0_trimPiece_48 (lv_at hl 6 rfl) ?_
            refine lv_iconst (v := (-1 : Int32)) hx hb dX0_trimPiece_50 (by decide) ?_
            refine va_iast hx hb hK hP hD hS 1 0 rfl rfl h_5 dX0_trimPiece_51 (fun H locs hP hD hS => ?_)
            have hP : va_P (dC, dI) vwCl (kCake kI kA co ca cv cr cg (upd cw x6.toNatClampNeg (-1 : Int32)) cV) H := hP
            have hD : va_D A (kCake kI kA co ca cv cr cg (upd cw x6.toNatClampNeg (-1 : Int32)) cV) := hD
            refine lv_iload hx hb dX0_trimPiece_52 (lv_at hl 4 rfl) ?_
            refine lv_aload_n hx hb dX0_trimPiece_54 rfl (lv_at hl 0 rfl) ?_
            refine va_get (D := (dC, dI)) (ci := 0) (v := .ref cv) (C := RX0) (T := TX0) (N := 3) hx hb hts in_X0_trimPiece_X0 hown hK hP 0 rfl rfl 2 (by decide) (hts (.fieldLink RX0 21 "CakeMarks$Cake" "values" "[[I") (List.mem_of_getElem? (i := 2) rfl)) (fun _ h9 => h9) rfl dX0_trimPiece_55 ?_
            refine lv_iload_n hx hb dX0_trimPiece_58 rfl (lv_at hl 2 rfl) ?_
            obtain ⟨h_7, hw⟩ := hw
            refine zald hx hb hK hP 2 1 rfl rfl rfl h_7 rfl dX0_trimPiece_59 ?_
            refine lv_iload hx hb dX0_trimPiece_60 (lv_at hl 6 rfl) ?_
            refine va_iald hx hb hK hP (3 + a2.toNatClampNeg) 0 (co_4 (P := fun g => (kCake kI kA co ca cv cr cg (upd cw x6.toNatClampNeg (-1 : Int32)) cV)[3 + g]? = some (cr g, zi kI 24 (cV g))) rfl rfl rfl rfl (z_lt h_7)) rfl h_5 dX0_trimPiece_62 ?_
            refine lv_isub hx hb dX0_trimPiece_63 ?_
            refine lv_istore (lv' := [(4, .int (x4 - (cV a2.toNatClampNeg x6.toNatClampNeg))), (0, .ref co), (1, .int a1), (2, .int a2), (3, .int x3), (5, .int x5), (6, .int x6)]) hx hb dX0_trimPiece_64 hl (by decide) rfl (fun ls hl => ?_)
            refine lv_iinc (v := (x5 + (1 : Int32))) (lv' := [(5, .int (x5 + (1 : Int32))), (4, .int (x4 - (cV a2.toNatClampNeg x6.toNatClampNeg))), (0, .ref co), (1, .int a1), (2, .int a2), (3, .int x3), (6, .int x6)]) hx hb dX0_trimPiece_66 hl (k := 5) rfl (by first | rfl | decide) (by decide) rfl (fun ls hl => ?_)
            refine lv_iinc (v := (x6 + (-1 : Int32))) (lv' := [(6, .int (x6 + (-1 : Int32))), (5, .int (x5 + (1 : Int32))), (4, .int (x4 - (cV a2.toNatClampNeg x6.toNatClampNeg))), (0, .ref co), (1, .int a1), (2, .int a2), (3, .int x3)]) hx hb dX0_trimPiece_69 hl (k := 6) rfl (by first | rfl | decide) (by decide) rfl (fun ls hl => ?_)
            refine lv_goto (tgt := 22) hx hb dX0_trimPiece_72 (by decide) ?_
            exact hJ22 x3 (x4 - (cV a2.toNatClampNeg x6.toNatClampNeg)) (x5 + (1 : Int32)) (x6 + (-1 : Int32)) (upd cw x6.toNatClampNeg (-1 : Int32)) hw ls _ _ (lv_sub hl [3, 4, 5, 6, 2, 1, 0] rfl) hP hD hS
  have hJ22 : ∀ (x3 : Int32) (x4 : Int32) (x5 : Int32) (x6 : Int32) (cw : Nat → Int32), Wp_X0_trimPiece_22 cV a1 a2 Z x3 x4 x5 x6 cw → ∀ (ls : Array Slot) (H : Heap) (locs : List Loc), lv_has ls 7 [(0, .ref co), (1, .int a1), (2, .int a2), (3, .int x3), (4, .int x4), (5, .int x5), (6, .int x6)] → va_P (dC, dI) vwCl (kCake kI kA co ca cv cr cg cw cV) H → va_D A (kCake kI kA co ca cv cr cg cw cV) → va_S A s.heap H locs → W p l e ({ frames := 2, cells := 0, slots := 0, locals := 48 }) s m args below meth c H locs 0 0 Q (F0 m 22 ls []) := fun x3 x4 x5 x6 cw hv => hv (fun x3 x4 x5 x6 cw => ∀ (ls : Array Slot) (H : Heap) (locs : List Loc), lv_has ls 7 [(0, .ref co), (1, .int a1), (2, .int a2), (3, .int x3), (4, .int x4), (5, .int x5), (6, .int x6)] → va_P (dC, dI) vwCl (kCake kI kA co ca cv cr cg cw cV) H → va_D A (kCake kI kA co ca cv cr cg cw cV) → va_S A s.heap H locs → W p l e ({ frames := 2, cells := 0, slots := 0, locals := 48 }) s m args below meth c H locs 0 0 Q (F0 m 22 ls [])) (fun J22 q22 => (key J22 q22))
  unfold Wp_X0_trimPiece at hw
  refine lv_aload_n hx hb dX0_trimPiece_0 rfl (lv_at hl 0 rfl) ?_
  refine lv_iload_n hx hb dX0_trimPiece_1 rfl (lv_at hl 2 rfl) ?_
  refine lv_iload_n hx hb dX0_trimPiece_2 rfl (lv_at hl 2 rfl) ?_
  refine zcallI (ci := 0) (q0 := 0) (As := [.int a2, .int a2]) (rest := []) (wr := ([] : va_W)) (Wn := fun u => (kCake kI kA co ca cv cr cg cw cV)) ⟨hx, hb, hml, hown, hts⟩ (c_X0_worth l dC dI kI kA kC co ca cv cr _ cg cw cV a2 a2 _ hw) (cwV 2 hts gX0_trimPiece_X0_worth rfl rfl rfl (by decide +kernel) ⟨Nat.le_of_ble_eq_true rfl, Nat.le_of_ble_eq_true rfl⟩) hK hP hD hS hA [0, 1, 2, 3, 4, 5, 6] [] [0, 1, 2, 3, 4, 5, 6] rfl rfl (by decide) (by decide) (by decide) (fun u => rfl) (by decide) rfl rfl rfl rfl hl.1 rfl (Nat.le_of_ble_eq_true rfl) dX0_trimPiece_3 ⟨Nat.zero_le _, Nat.zero_le _⟩ (fun r_1 u H locs hw hP hD hS => ?_)
  have hP : va_P (dC, dI) vwCl (kCake kI kA co ca cv cr cg cw cV) H := hP
  have hD : va_D A (kCake kI kA co ca cv cr cg cw cV) := hD
  refine lv_istore_n (lv' := [(3, .int r_1), (0, .ref co), (1, .int a1), (2, .int a2)]) hx hb dX0_trimPiece_6 rfl hl (by decide) rfl (fun ls hl => ?_)
  refine lv_aload_n hx hb dX0_trimPiece_7 rfl (lv_at hl 1 rfl) ?_
  refine lv_iload_n hx hb dX0_trimPiece_8 rfl (lv_at hl 3 rfl) ?_
  refine lv_iload_n hx hb dX0_trimPiece_9 rfl (lv_at hl 2 rfl) ?_
  refine zcallI (ci := 0) (q0 := 0) (As := [.int a2, .int a1]) (rest := []) (wr := ([] : va_W)) (Wn := fun u => (kCake kI kA co ca cv cr cg cw cV)) ⟨hx, hb, hml, hown, hts⟩ (c_X0_worth l dC dI kI kA kC co ca cv cr _ cg cw cV a2 a1 _ hw) (cwV 2 hts gX0_trimPiece_X0_worth rfl rfl rfl (by decide +kernel) ⟨Nat.le_of_ble_eq_true rfl, Nat.le_of_ble_eq_true rfl⟩) hK hP hD hS hA [0, 1, 2, 3, 4, 5, 6] [] [0, 1, 2, 3, 4, 5, 6] rfl rfl (by decide) (by decide) (by decide) (fun u => rfl) (by decide) rfl rfl rfl rfl hl.1 rfl (Nat.le_of_ble_eq_true rfl) dX0_trimPiece_10 ⟨Nat.zero_le _, Nat.zero_le _⟩ (fun r_2 u H locs hw hP hD hS => ?_)
  have hP : va_P (dC, dI) vwCl (kCake kI kA co ca cv cr cg cw cV) H := hP
  have hD : va_D A (kCake kI kA co ca cv cr cg cw cV) := hD
  refine lv_istore (lv' := [(4, .int r_2), (3, .int r_1), (0, .ref co), (1, .int a1), (2, .int a2)]) hx hb dX0_trimPiece_13 hl (by decide) rfl (fun ls hl => ?_)
  refine lv_iconst (v := (0 : Int32)) hx hb dX0_trimPiece_15 (by decide) ?_
  refine lv_istore (lv' := [(5, .int (0 : Int32)), (4, .int r_2), (3, .int r_1), (0, .ref co), (1, .int a1), (2, .int a2)]) hx hb dX0_trimPiece_16 hl (by decide) rfl (fun ls hl => ?_)
  refine lv_bipush (v := (23 : Int32)) hx hb dX0_trimPiece_18 (by decide) ?_
  refine lv_istore (lv' := [(6, .int (23 : Int32)), (5, .int (0 : Int32)), (4, .int r_2), (3, .int r_1), (0, .ref co), (1, .int a1), (2, .int a2)]) hx hb dX0_trimPiece_20 hl (by decide) rfl (fun ls hl => ?_)
  exact hJ22 r_1 r_2 (0 : Int32) (23 : Int32) cw hw ls _ _ (lv_sub hl [4, 5, 6, 3, 2, 1, 0] rfl) hP hD hS
-- CakeMarks$Cake.passPieces(LCakeMarks$Row;)V
def B_X0_passPieces_2 (rT : Nat → Int32) (rs : Int32) (Z : (Nat → Int32) → Prop) (J2 : Int32 → (Nat → Int32) → Prop) (x2 : Int32) (cw : Nat → Int32) : Prop := (((24 : Int32) ≤ x2 → (Z cw)) ∧ (¬ (24 : Int32) ≤ x2 → (vp_in x2 24 ∧ (Wp_X4_placeOf rT rs (cw x2.toNatClampNeg) (fun r_3 => ((rs ≤ r_3 → (J2 (x2 + (1 : Int32)) cw)) ∧ (¬ rs ≤ r_3 → ((¬ r_3 = (0 : Int32) → (vp_in (r_3 - (1 : Int32)) 4 ∧ (J2 (x2 + (1 : Int32)) (upd cw x2.toNatClampNeg (rT (r_3 - (1 : Int32)).toNatClampNeg))))) ∧ (r_3 = (0 : Int32) → (vp_in (rs - (1 : Int32)) 4 ∧ (J2 (x2 + (1 : Int32)) (upd cw x2.toNatClampNeg (rT (rs - (1 : Int32)).toNatClampNeg)))))))))))))
def Wp_X0_passPieces_2 (rT : Nat → Int32) (rs : Int32) (Z : (Nat → Int32) → Prop) (x2 : Int32) (cw : Nat → Int32) : Prop := ∀ (I2 : Int32 → (Nat → Int32) → Prop), (∀ (J2 : Int32 → (Nat → Int32) → Prop), (∀ (x2 : Int32) (cw : Nat → Int32), J2 x2 cw → I2 x2 cw) → ∀ (x2 : Int32) (cw : Nat → Int32), B_X0_passPieces_2 rT rs Z J2 x2 cw → I2 x2 cw) → I2 x2 cw
theorem F_X0_passPieces_2 (rT : Nat → Int32) (rs : Int32) (Z : (Nat → Int32) → Prop) (x2 : Int32) (cw : Nat → Int32) (h : B_X0_passPieces_2 rT rs Z (Wp_X0_passPieces_2 rT rs Z) x2 cw) : Wp_X0_passPieces_2 rT rs Z x2 cw := fun I2 h2 => h2 _ (fun x2 cw hx => hx I2 h2) x2 cw h
def Wp_X0_passPieces (cw : Nat → Int32) (rT : Nat → Int32) (rs : Int32) (Z : (Nat → Int32) → Prop) : Prop := ((Wp_X0_passPieces_2 rT rs Z) (0 : Int32) cw)
theorem in_X0_passPieces_X0 : ∀ w ∈ u_ws RX0 TX0 3, w ∈ wsX0_passPieces := fun w h => List.mem_cons_of_mem _ (List.mem_append_left _ (List.mem_append_right _ h))
theorem in_X0_passPieces_X4 : ∀ w ∈ u_ws RX4 TX4 3, w ∈ wsX0_passPieces := fun w h => List.mem_cons_of_mem _ (List.mem_append_right _ h)
set_option maxHeartbeats 20000000 in
set_option maxRecDepth 100000 in
theorem c_X0_passPieces (l : Launch) (dC : Nat → ClassId) (dI : Nat → Nat → Nat) (kI kA kC : ClassId) (co : Nat) (ca : Nat) (cv : Nat) (cr : Nat → Nat) (ro : Nat) (ra : Nat) (sz : Nat) (cg : Int32) (cw : Nat → Int32) (cV : Nat → Nat → Int32) (rT : Nat → Int32) (rs : Int32) (rg : Int32) (Z : (Nat → Int32) → Prop) (hw : Wp_X0_passPieces cw rT rs Z) : zV l yX0_passPieces wsX0_passPieces ({ frames := 1, cells := 0, slots := 0, locals := 22 }) dC dI kI kA kC sz 0 0 [.ref co, .ref ro] ((kCake kI kA co ca cv cr cg cw cV) ++ (kRow kI ro ra rT rs rg)) (fun (u : (Nat → Int32)) => Z u) (fun (u : (Nat → Int32)) => ((kCake kI kA co ca cv cr cg u cV) ++ (kRow kI ro ra rT rs rg))) := by
  refine zV.of (cc := cX0_passPieces) (maxL := 4) (by decide) rfl (Nat.le_of_ble_eq_true rfl) ?_
  intro p e s m args below meth c A Q C0 hret ls hl
  obtain ⟨hx, hb, hr, hml, hts, hown, hin, hP, hK, hD, hA, hS⟩ := C0
  have hown : s.vm.findClass RX0 = some m.cls := hown
  have hl : lv_has ls 4 [(0, .ref co), (1, .ref ro)] := hl
  have key : ∀ (J2 : Int32 → (Nat → Int32) → Prop) (hJ2 : ∀ (x2 : Int32) (cw : Nat → Int32), J2 x2 cw → ∀ (ls : Array Slot) (H : Heap) (locs : List Loc), lv_has ls 4 [(0, .ref co), (1, .ref ro), (2, .int x2)] → va_P (dC, dI) vwCl ((kCake kI kA co ca cv cr cg cw cV) ++ (kRow kI ro ra rT rs rg)) H → va_D A ((kCake kI kA co ca cv cr cg cw cV) ++ (kRow kI ro ra rT rs rg)) → va_S A s.heap H locs → W p l e ({ frames := 1, cells := 0, slots := 0, locals := 22 }) s m args below meth c H locs 0 0 Q (F0 m 2 ls [])), (∀ (x2 : Int32) (cw : Nat → Int32), B_X0_passPieces_2 rT rs Z J2 x2 cw → ∀ (ls : Array Slot) (H : Heap) (locs : List Loc), lv_has ls 4 [(0, .ref co), (1, .ref ro), (2, .int x2)] → va_P (dC, dI) vwCl ((kCake kI kA co ca cv cr cg cw cV) ++ (kRow kI ro ra rT rs rg)) H → va_D A ((kCake kI kA co ca cv cr cg cw cV) ++ (kRow kI ro ra rT rs rg)) → va_S A s.heap H locs → W p l e ({ frames := 1, cells := 0, slots := 0, locals := 22 }) s m args below meth c H locs 0 0 Q (F0 m 2 ls [])) := by
    intro J2 hJ2
    · intro x2 cw hw ls H locs hl hP hD hS
      unfold B_X0_passPieces_2 at hw
      refine lv_iload_n hx hb dX0_passPieces_2 rfl (lv_at hl 2 rfl) ?_
      refine lv_bipush (v := (24 : Int32)) hx hb dX0_passPieces_3 (by decide) ?_
      refine lv_icmp_ge (tgt := 60) hx hb dX0_passPieces_5 (by decide) (fun c_1 => ?_) (fun c_1 => ?_)
      · have hw := hw.1 c_1
        exact hret 60 cw _ _ _ hw hP hD hS dX0_passPieces_60
      · have hw := hw.2 c_1
        refine lv_aload_n hx hb dX0_passPieces_8 rfl (lv_at hl 1 rfl) ?_
        refine lv_aload_n hx hb dX0_passPieces_9 rfl (lv_at hl 0 rfl) ?_
        refine va_get (D := (dC, dI)) (ci := 0) (v := .ref ca) (C := RX0) (T := TX0) (N := 3) hx hb hts in_X0_passPieces_X0 hown hK hP 0 rfl rfl 1 (by decide) (hts (.fieldLink RX0 15 "CakeMarks$Cake" "owner" "[I") (List.mem_of_getElem? (i := 1) rfl)) (fun _ h9 => h9) rfl dX0_passPieces_10 ?_
        refine lv_iload_n hx hb dX0_passPieces_13 rfl (lv_at hl 2 rfl) ?_
        obtain ⟨h_2, hw⟩ := hw
        refine va_iald hx hb hK hP 1 0 rfl rfl h_2 dX0_passPieces_14 ?_
        refine zcallI (ci := 4) (q0 := 0) (As := [.int (cw x2.toNatClampNeg)]) (rest := []) (wr := (kCake kI kA co ca cv cr cg cw cV)) (Wn := fun u => ((kCake kI kA co ca cv cr cg cw cV) ++ (kRow kI ro ra rT rs rg))) ⟨hx, hb, hml, hown, hts⟩ (c_X4_placeOf l dC dI kI kA kC ro ra _ rT rs rg (cw x2.toNatClampNeg) _ hw) (cwV 1 hts gX0_passPieces_X4_placeOf rfl rfl rfl (by decide +kernel) ⟨Nat.le_of_ble_eq_true rfl, Nat.le_of_ble_eq_true rfl⟩) hK hP hD hS hA [7, 8] [0, 1, 2, 3, 4, 5, 6] [0, 1, 2, 3, 4, 5, 6, 7, 8] rfl rfl (by decide) (by decide) (by decide) (fun u => rfl) (by decide) rfl rfl rfl rfl hl.1 rfl (Nat.le_of_ble_eq_true rfl) dX0_passPieces_15 ⟨Nat.zero_le _, Nat.zero_le _⟩ (fun r_3 u H locs hw hP hD hS => ?_)
        have hP : va_P (dC, dI) vwCl ((kCake kI kA co ca cv cr cg cw cV) ++ (kRow kI ro ra rT rs rg)) H := hP
        have hD : va_D A ((kCake kI kA co ca cv cr cg cw cV) ++ (kRow kI ro ra rT rs rg)) := hD
        refine lv_istore_n (lv' := [(3, .int r_3), (0, .ref co), (1, .ref ro), (2, .int x2)]) hx hb dX0_passPieces_18 rfl hl (by decide) rfl (fun ls hl => ?_)
        refine lv_iload_n hx hb dX0_passPieces_19 rfl (lv_at hl 0 rfl) ?_
        refine lv_aload_n hx hb dX0_passPieces_20 rfl (lv_at hl 2 rfl) ?_
        refine va_get (D := (dC, dI)) (ci := 4) (v := .int rs) (C := RX4) (T := TX4) (N := 3) hx hb hts in_X0_passPieces_X4 hown hK hP 7 rfl rfl 1 (by decide) (hts (.fieldLink RX0 65 "CakeMarks$Row" "size" "I") (List.mem_of_getElem? (i := 2) rfl)) (fun _ h9 => h9) rfl dX0_passPieces_21 ?_
        refine lv_icmp_ge (tgt := 54) hx hb dX0_passPieces_24 (by decide) (fun c_4 => ?_) (fun c_4 => ?_)
        · have hw := hw.1 c_4
          refine lv_iinc (v := (x2 + (1 : Int32))) (lv' := [(2, .int (x2 + (1 : Int32))), (3, .int r_3), (0, .ref co), (1, .ref ro)]) hx hb dX0_passPieces_54 hl (k := 3) rfl (by first | rfl | decide) (by decide) rfl (fun ls hl => ?_)
          refine lv_goto (tgt := 2) hx hb dX0_passPieces_57 (by decide) ?_
          exact hJ2 (x2 + (1 : Int32)) cw hw ls _ _ (lv_sub hl [2, 3, 0] rfl) hP hD hS
        · have hw := hw.2 c_4
          refine lv_aload_n hx hb dX0_passPieces_27 rfl (lv_at hl 1 rfl) ?_
          refine va_get (D := (dC, dI)) (ci := 0) (v := .ref ca) (C := RX0) (T := TX0) (N := 3) hx hb hts in_X0_passPieces_X0 hown hK hP 0 rfl rfl 1 (by decide) (hts (.fieldLink RX0 15 "CakeMarks$Cake" "owner" "[I") (List.mem_of_getElem? (i := 1) rfl)) (fun _ h9 => h9) rfl dX0_passPieces_28 ?_
          refine lv_iload_n hx hb dX0_passPieces_31 rfl (lv_at hl 3 rfl) ?_
          refine lv_aload_n hx hb dX0_passPieces_32 rfl (lv_at hl 2 rfl) ?_
          refine va_get (D := (dC, dI)) (ci := 4) (v := .ref ra) (C := RX4) (T := TX4) (N := 3) hx hb hts in_X0_passPieces_X4 hown hK hP 7 rfl rfl 0 (by decide) (hts (.fieldLink RX0 68 "CakeMarks$Row" "at" "[I") (List.mem_of_getElem? (i := 3) rfl)) (fun _ h9 => h9) rfl dX0_passPieces_33 ?_
          refine lv_iload_n hx hb dX0_passPieces_36 rfl (lv_at hl 0 rfl) ?_
          refine lv_if_ne (tgt := 49) hx hb dX0_passPieces_37 (by decide) (fun c_5 => ?_) (fun c_5 => ?_)
          · have hw := hw.1 c_5
            refine lv_iload_n hx hb dX0_passPieces_49 rfl (lv_at hl 0 rfl) ?_
            refine lv_iconst (v := (1 : Int32)) hx hb dX0_passPieces_50 (by decide) ?_
            refine lv_isub hx hb dX0_passPieces_51 ?_
            obtain ⟨h_6, hw⟩ := hw
            refine va_iald hx hb hK hP 8 0 rfl rfl h_6 dX0_passPieces_52 ?_
            refine va_iast hx hb hK hP hD hS 1 0 rfl rfl h_2 dX0_passPieces_53 (fun H locs hP hD hS => ?_)
            have hP : va_P (dC, dI) vwCl ((kCake kI kA co ca cv cr cg (upd cw x2.toNatClampNeg (rT (r_3 - (1 : Int32)).toNatClampNeg)) cV) ++ (kRow kI ro ra rT rs rg)) H := hP
            have hD : va_D A ((kCake kI kA co ca cv cr cg (upd cw x2.toNatClampNeg (rT (r_3 - (1 : Int32)).toNatClampNeg)) cV) ++ (kRow kI ro ra rT rs rg)) := hD
            refine lv_iinc (v := (x2 + (1 : Int32))) (lv' := [(2, .int (x2 + (1 : Int32))), (3, .int r_3), (0, .ref co), (1, .ref ro)]) hx hb dX0_passPieces_54 hl (k := 3) rfl (by first | rfl | decide) (by decide) rfl (fun ls hl => ?_)
            refine lv_goto (tgt := 2) hx hb dX0_passPieces_57 (by decide) ?_
            exact hJ2 (x2 + (1 : Int32)) (upd cw x2.toNatClampNeg (rT (r_3 - (1 : Int32)).toNatClampNeg)) hw ls _ _ (lv_sub hl [2, 3, 0] rfl) hP hD hS
          · have hw := hw.2 c_5
            refine lv_aload_n hx hb dX0_passPieces_40 rfl (lv_at hl 2 rfl) ?_
            refine va_get (D := (dC, dI)) (ci := 4) (v := .int rs) (C := RX4) (T := TX4) (N := 3) hx hb hts in_X0_passPieces_X4 hown hK hP 7 rfl rfl 1 (by decide) (hts (.fieldLink RX0 65 "CakeMarks$Row" "size" "I") (List.mem_of_getElem? (i := 2) rfl)) (fun _ h9 => h9) rfl dX0_passPieces_41 ?_
            refine lv_iconst (v := (1 : Int32)) hx hb dX0_passPieces_44 (by decide) ?_
            refine lv_isub hx hb dX0_passPieces_45 ?_
            refine lv_goto (tgt := 52) hx hb dX0_passPieces_46 (by decide) ?_
            obtain ⟨h_7, hw⟩ := hw
            refine va_iald hx hb hK hP 8 0 rfl rfl h_7 dX0_passPieces_52 ?_
            refine va_iast hx hb hK hP hD hS 1 0 rfl rfl h_2 dX0_passPieces_53 (fun H locs hP hD hS => ?_)
            have hP : va_P (dC, dI) vwCl ((kCake kI kA co ca cv cr cg (upd cw x2.toNatClampNeg (rT (rs - (1 : Int32)).toNatClampNeg)) cV) ++ (kRow kI ro ra rT rs rg)) H := hP
            have hD : va_D A ((kCake kI kA co ca cv cr cg (upd cw x2.toNatClampNeg (rT (rs - (1 : Int32)).toNatClampNeg)) cV) ++ (kRow kI ro ra rT rs rg)) := hD
            refine lv_iinc (v := (x2 + (1 : Int32))) (lv' := [(2, .int (x2 + (1 : Int32))), (3, .int r_3), (0, .ref co), (1, .ref ro)]) hx hb dX0_passPieces_54 hl (k := 3) rfl (by first | rfl | decide) (by decide) rfl (fun ls hl => ?_)
            refine lv_goto (tgt := 2) hx hb dX0_passPieces_57 (by decide) ?_
            exact hJ2 (x2 + (1 : Int32)) (upd cw x2.toNatClampNeg (rT (rs - (1 : Int32)).toNatClampNeg)) hw ls _ _ (lv_sub hl [2, 3, 0] rfl) hP hD hS
  have hJ2 : ∀ (x2 : Int32) (cw : Nat → Int32), Wp_X0_passPieces_2 rT rs Z x2 cw → ∀ (ls : Array Slot) (H : Heap) (locs : List Loc), lv_has ls 4 [(0, .ref co), (1, .ref ro), (2, .int x2)] → va_P (dC, dI) vwCl ((kCake kI kA co ca cv cr cg cw cV) ++ (kRow kI ro ra rT rs rg)) H → va_D A ((kCake kI kA co ca cv cr cg cw cV) ++ (kRow kI ro ra rT rs rg)) → va_S A s.heap H locs → W p l e ({ frames := 1, cells := 0, slots := 0, locals := 22 }) s m args below meth c H locs 0 0 Q (F0 m 2 ls []) := fun x2 cw hv => hv (fun x2 cw => ∀ (ls : Array Slot) (H : Heap) (locs : List Loc), lv_has ls 4 [(0, .ref co), (1, .ref ro), (2, .int x2)] → va_P (dC, dI) vwCl ((kCake kI kA co ca cv cr cg cw cV) ++ (kRow kI ro ra rT rs rg)) H → va_D A ((kCake kI kA co ca cv cr cg cw cV) ++ (kRow kI ro ra rT rs rg)) → va_S A s.heap H locs → W p l e ({ frames := 1, cells := 0, slots := 0, locals := 22 }) s m args below meth c H locs 0 0 Q (F0 m 2 ls [])) (fun J2 q2 => (key J2 q2))
  unfold Wp_X0_passPieces at hw
  refine lv_iconst (v := (0 : Int32)) hx hb dX0_passPieces_0 (by decide) ?_
  refine lv_istore_n (lv' := [(2, .int (0 : Int32)), (0, .ref co), (1, .ref ro)]) hx hb dX0_passPieces_1 rfl hl (by decide) rfl (fun ls hl => ?_)
  exact hJ2 (0 : Int32) cw hw ls _ _ (lv_sub hl [1, 2, 0] rfl) hP hD hS
-- CakeMarks$Cake.envyOf(II)I
def Wp_X0_envyOf (cw : Nat → Int32) (cV : Nat → Nat → Int32) (a1 : Int32) (a2 : Int32) (Z : Int32 → Prop) : Prop := (Wp_X0_worth cw cV a1 a2 (fun r_1 => (Wp_X0_worth cw cV a1 a1 (fun r_2 => (Z (if (0 : Int32) < (r_1 - r_2) then (r_1 - r_2) else (0 : Int32)))))))
set_option maxHeartbeats 20000000 in
set_option maxRecDepth 100000 in
theorem c_X0_envyOf (l : Launch) (dC : Nat → ClassId) (dI : Nat → Nat → Nat) (kI kA kC : ClassId) (co : Nat) (ca : Nat) (cv : Nat) (cr : Nat → Nat) (sz : Nat) (cg : Int32) (cw : Nat → Int32) (cV : Nat → Nat → Int32) (a1 : Int32) (a2 : Int32) (Z : Int32 → Prop) (hw : Wp_X0_envyOf cw cV a1 a2 Z) : zI l yX0_envyOf wsX0_envyOf ({ frames := 2, cells := 0, slots := 0, locals := 48 }) dC dI kI kA kC sz 0 0 [.ref co, .int a1, .int a2] (kCake kI kA co ca cv cr cg cw cV) (fun (r : Int32) (u : Unit) => Z r ) (fun (u : Unit) => (kCake kI kA co ca cv cr cg cw cV)) := by
  refine zI.of (cc := cX0_envyOf) (maxL := 3) (ty := .int) (by decide) rfl (Nat.le_of_ble_eq_true rfl) (Or.inl rfl) ?_
  intro p e s m args below meth c A Q C0 hret ls hl
  obtain ⟨hx, hb, hr, hml, hts, hown, hin, hP, hK, hD, hA, hS⟩ := C0
  have hown : s.vm.findClass RX0 = some m.cls := hown
  have hl : lv_has ls 3 [(0, .ref co), (1, .int a1), (2, .int a2)] := hl
  unfold Wp_X0_envyOf at hw
  refine lv_iconst (v := (0 : Int32)) hx hb dX0_envyOf_0 (by decide) ?_
  refine lv_aload_n hx hb dX0_envyOf_1 rfl (lv_at hl 0 rfl) ?_
  refine lv_iload_n hx hb dX0_envyOf_2 rfl (lv_at hl 1 rfl) ?_
  refine lv_iload_n hx hb dX0_envyOf_3 rfl (lv_at hl 2 rfl) ?_
  refine zcallI (ci := 0) (q0 := 0) (As := [.int a1, .int a2]) (rest := [.int (0 : Int32)]) (wr := ([] : va_W)) (Wn := fun u => (kCake kI kA co ca cv cr cg cw cV)) ⟨hx, hb, hml, hown, hts⟩ (c_X0_worth l dC dI kI kA kC co ca cv cr _ cg cw cV a1 a2 _ hw) (cwV 2 hts gX0_envyOf_X0_worth rfl rfl rfl (by decide +kernel) ⟨Nat.le_of_ble_eq_true rfl, Nat.le_of_ble_eq_true rfl⟩) hK hP hD hS hA [0, 1, 2, 3, 4, 5, 6] [] [0, 1, 2, 3, 4, 5, 6] rfl rfl (by decide) (by decide) (by decide) (fun u => rfl) (by decide) rfl rfl rfl rfl hl.1 rfl (Nat.le_of_ble_eq_true rfl) dX0_envyOf_4 ⟨Nat.zero_le _, Nat.zero_le _⟩ (fun r_1 u H locs hw hP hD hS => ?_)
  have hP : va_P (dC, dI) vwCl (kCake kI kA co ca cv cr cg cw cV) H := hP
  have hD : va_D A (kCake kI kA co ca cv cr cg cw cV) := hD
  refine lv_aload_n hx hb dX0_envyOf_7 rfl (lv_at hl 0 rfl) ?_
  refine lv_iload_n hx hb dX0_envyOf_8 rfl (lv_at hl 1 rfl) ?_
  refine lv_iload_n hx hb dX0_envyOf_9 rfl (lv_at hl 1 rfl) ?_
  refine zcallI (ci := 0) (q0 := 0) (As := [.int a1, .int a1]) (rest := [.int r_1, .int (0 : Int32)]) (wr := ([] : va_W)) (Wn := fun u => (kCake kI kA co ca cv cr cg cw cV)) ⟨hx, hb, hml, hown, hts⟩ (c_X0_worth l dC dI kI kA kC co ca cv cr _ cg cw cV a1 a1 _ hw) (cwV 2 hts gX0_envyOf_X0_worth rfl rfl rfl (by decide +kernel) ⟨Nat.le_of_ble_eq_true rfl, Nat.le_of_ble_eq_true rfl⟩) hK hP hD hS hA [0, 1, 2, 3, 4, 5, 6] [] [0, 1, 2, 3, 4, 5, 6] rfl rfl (by decide) (by decide) (by decide) (fun u => rfl) (by decide) rfl rfl rfl rfl hl.1 rfl (Nat.le_of_ble_eq_true rfl) dX0_envyOf_10 ⟨Nat.zero_le _, Nat.zero_le _⟩ (fun r_2 u H locs hw hP hD hS => ?_)
  have hP : va_P (dC, dI) vwCl (kCake kI kA co ca cv cr cg cw cV) H := hP
  have hD : va_D A (kCake kI kA co ca cv cr cg cw cV) := hD
  refine lv_isub hx hb dX0_envyOf_13 ?_
  refine va_mmax hx hb (hml.trans hl.1.symm) hown (hts (.methodLink RX0 71 Lib.Math.max.name) (List.mem_of_getElem? (i := 1) rfl)) (hts (.static Lib.Math.max.name) (List.mem_of_getElem? (i := 2) rfl)) (hts (.initialized "java/lang/Math") (List.mem_of_getElem? (i := 3) rfl)) (hts (.code Lib.Math.max.name Lib.Math.max.code 2 (some .int)) (List.mem_of_getElem? (i := 4) rfl)) (Nat.le_of_ble_eq_true rfl) (Nat.le_of_ble_eq_true rfl) (Nat.zero_le _) (Nat.zero_le _) dX0_envyOf_14 ?_
  exact hret 17 (if (0 : Int32) < (r_1 - r_2) then (r_1 - r_2) else (0 : Int32)) () _ _ _ (fun h => absurd h (by decide)) hw hP hD hS dX0_envyOf_17
