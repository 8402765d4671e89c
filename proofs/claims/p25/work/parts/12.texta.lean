-- CakeMarks$ValueText.isDigit(I)Z
def Wp_X5_isDigit (xl : Int32) (xS : Nat → Int32) (a1 : Int32) (Z : Int32 → Prop) : Prop := ((a1 < (0 : Int32) → (Z (0 : Int32))) ∧ (¬ a1 < (0 : Int32) → ((xl ≤ a1 → (Z (0 : Int32))) ∧ (¬ xl ≤ a1 → (vp_in a1 60 ∧ (((xS a1.toNatClampNeg) < (48 : Int32) → (Z (0 : Int32))) ∧ (¬ (xS a1.toNatClampNeg) < (48 : Int32) → (((57 : Int32) < (xS a1.toNatClampNeg) → (Z (0 : Int32))) ∧ (¬ (57 : Int32) < (xS a1.toNatClampNeg) → (Z (1 : Int32)))))))))))
theorem in_X5_isDigit_X5 : ∀ w ∈ u_ws RX5 TX5 5, w ∈ wsX5_isDigit := fun w h => List.mem_cons_of_mem _ (List.mem_append_right _ h)
set_option maxHeartbeats 20000000 in
set_option maxRecDepth 100000 in
theorem c_X5_isDigit (l : Launch) (dC : Nat → ClassId) (dI : Nat → Nat → Nat) (kI kA kC : ClassId) (xo : Nat) (xs : Nat) (xv : Nat) (sz : Nat) (xl : Int32) (xS : Nat → Int32) (xV : Nat → Int32) (xt : Int32) (xp : Int32) (a1 : Int32) (Z : Int32 → Prop) (hw : Wp_X5_isDigit xl xS a1 Z) : zI l yX5_isDigit wsX5_isDigit ({ frames := 0, cells := 0, slots := 0, locals := 0 }) dC dI kI kA kC sz 0 0 [.ref xo, .int a1] (kText kI xo xs xv xl xS xV xt xp) (fun (r : Int32) (u : Unit) => Z r ) (fun (u : Unit) => (kText kI xo xs xv xl xS xV xt xp)) := by
  refine zI.of (cc := cX5_isDigit) (maxL := 2) (ty := .boolean) (by decide) rfl (Nat.le_of_ble_eq_true rfl) (Or.inr rfl) ?_
  intro p e s m args below meth c A Q C0 hret ls hl
  obtain ⟨hx, hb, hr, hml, hts, hown, hin, hP, hK, hD, hA, hS⟩ := C0
  have hown : s.vm.findClass RX5 = some m.cls := hown
  have hl : lv_has ls 2 [(0, .ref xo), (1, .int a1)] := hl
  unfold Wp_X5_isDigit at hw
  refine lv_iload_n hx hb dX5_isDigit_0 rfl (lv_at hl 1 rfl) ?_
  refine lv_if_lt (tgt := 38) hx hb dX5_isDigit_1 (by decide) (fun c_1 => ?_) (fun c_1 => ?_)
  · have hw := hw.1 c_1
    refine lv_iconst (v := (0 : Int32)) hx hb dX5_isDigit_38 (by decide) ?_
    exact hret 39 (0 : Int32) () _ _ _ (fun _ => rfl) hw hP hD hS dX5_isDigit_39
  · have hw := hw.2 c_1
    refine lv_iload_n hx hb dX5_isDigit_4 rfl (lv_at hl 1 rfl) ?_
    refine lv_aload_n hx hb dX5_isDigit_5 rfl (lv_at hl 0 rfl) ?_
    refine va_get (D := (dC, dI)) (ci := 5) (v := .int xl) (C := RX5) (T := TX5) (N := 5) hx hb hts in_X5_isDigit_X5 hown hK hP 0 rfl rfl 0 (by decide) (hts (.fieldLink RX5 9 "CakeMarks$ValueText" "length" "I") (List.mem_of_getElem? (i := 1) rfl)) (fun _ h9 => h9) rfl dX5_isDigit_6 ?_
    refine lv_icmp_ge (tgt := 38) hx hb dX5_isDigit_9 (by decide) (fun c_2 => ?_) (fun c_2 => ?_)
    · have hw := hw.1 c_2
      refine lv_iconst (v := (0 : Int32)) hx hb dX5_isDigit_38 (by decide) ?_
      exact hret 39 (0 : Int32) () _ _ _ (fun _ => rfl) hw hP hD hS dX5_isDigit_39
    · have hw := hw.2 c_2
      refine lv_aload_n hx hb dX5_isDigit_12 rfl (lv_at hl 0 rfl) ?_
      refine va_get (D := (dC, dI)) (ci := 5) (v := .ref xs) (C := RX5) (T := TX5) (N := 5) hx hb hts in_X5_isDigit_X5 hown hK hP 0 rfl rfl 1 (by decide) (hts (.fieldLink RX5 15 "CakeMarks$ValueText" "signs" "[I") (List.mem_of_getElem? (i := 2) rfl)) (fun _ h9 => h9) rfl dX5_isDigit_13 ?_
      refine lv_iload_n hx hb dX5_isDigit_16 rfl (lv_at hl 1 rfl) ?_
      obtain ⟨h_3, hw⟩ := hw
      refine va_iald hx hb hK hP 1 0 rfl rfl h_3 dX5_isDigit_17 ?_
      refine lv_bipush (v := (48 : Int32)) hx hb dX5_isDigit_18 (by decide) ?_
      refine lv_icmp_lt (tgt := 38) hx hb dX5_isDigit_20 (by decide) (fun c_4 => ?_) (fun c_4 => ?_)
      · have hw := hw.1 c_4
        refine lv_iconst (v := (0 : Int32)) hx hb dX5_isDigit_38 (by decide) ?_
        exact hret 39 (0 : Int32) () _ _ _ (fun _ => rfl) hw hP hD hS dX5_isDigit_39
      · have hw := hw.2 c_4
        refine lv_aload_n hx hb dX5_isDigit_23 rfl (lv_at hl 0 rfl) ?_
        refine va_get (D := (dC, dI)) (ci := 5) (v := .ref xs) (C := RX5) (T := TX5) (N := 5) hx hb hts in_X5_isDigit_X5 hown hK hP 0 rfl rfl 1 (by decide) (hts (.fieldLink RX5 15 "CakeMarks$ValueText" "signs" "[I") (List.mem_of_getElem? (i := 2) rfl)) (fun _ h9 => h9) rfl dX5_isDigit_24 ?_
        refine lv_iload_n hx hb dX5_isDigit_27 rfl (lv_at hl 1 rfl) ?_
        refine va_iald hx hb hK hP 1 0 rfl rfl h_3 dX5_isDigit_28 ?_
        refine lv_bipush (v := (57 : Int32)) hx hb dX5_isDigit_29 (by decide) ?_
        refine lv_icmp_gt (tgt := 38) hx hb dX5_isDigit_31 (by decide) (fun c_5 => ?_) (fun c_5 => ?_)
        · have hw := hw.1 c_5
          refine lv_iconst (v := (0 : Int32)) hx hb dX5_isDigit_38 (by decide) ?_
          exact hret 39 (0 : Int32) () _ _ _ (fun _ => rfl) hw hP hD hS dX5_isDigit_39
        · have hw := hw.2 c_5
          refine lv_iconst (v := (1 : Int32)) hx hb dX5_isDigit_34 (by decide) ?_
          refine lv_goto (tgt := 39) hx hb dX5_isDigit_35 (by decide) ?_
          exact hret 39 (1 : Int32) () _ _ _ (fun _ => rfl) hw hP hD hS dX5_isDigit_39
-- CakeMarks$ValueText.readTimes(I)I
def Wp_X5_readTimes (xl : Int32) (xS : Nat → Int32) (xp : Int32) (a1 : Int32) (Z : Int32 → Int32 → Prop) : Prop := (Wp_X5_isDigit xl xS a1 (fun r_1 => ((r_1 = (0 : Int32) → (Z (0 : Int32) a1)) ∧ (¬ r_1 = (0 : Int32) → (vp_in a1 60 ∧ ((¬ (xS a1.toNatClampNeg) = (48 : Int32) → (Wp_X5_isDigit xl xS (a1 + (1 : Int32)) (fun r_5 => ((r_5 = (0 : Int32) → (Z ((xS a1.toNatClampNeg) - (48 : Int32)) (a1 + (1 : Int32)))) ∧ (¬ r_5 = (0 : Int32) → (vp_in (a1 + (1 : Int32)) 60 ∧ (Wp_X5_isDigit xl xS ((a1 + (1 : Int32)) + (1 : Int32)) (fun r_8 => ((r_8 = (0 : Int32) → (Z ((((10 : Int32) * ((xS a1.toNatClampNeg) - (48 : Int32))) + (xS (a1 + (1 : Int32)).toNatClampNeg)) - (48 : Int32)) ((a1 + (1 : Int32)) + (1 : Int32)))) ∧ (¬ r_8 = (0 : Int32) → (Z (0 : Int32) ((a1 + (1 : Int32)) + (1 : Int32))))))))))))) ∧ ((xS a1.toNatClampNeg) = (48 : Int32) → (Z (0 : Int32) a1))))))))
theorem in_X5_readTimes_X5 : ∀ w ∈ u_ws RX5 TX5 5, w ∈ wsX5_readTimes := fun w h => List.mem_cons_of_mem _ (List.mem_append_right _ h)
set_option maxHeartbeats 20000000 in
set_option maxRecDepth 100000 in
theorem c_X5_readTimes (l : Launch) (dC : Nat → ClassId) (dI : Nat → Nat → Nat) (kI kA kC : ClassId) (xo : Nat) (xs : Nat) (xv : Nat) (sz : Nat) (xl : Int32) (xS : Nat → Int32) (xV : Nat → Int32) (xt : Int32) (xp : Int32) (a1 : Int32) (Z : Int32 → Int32 → Prop) (hw : Wp_X5_readTimes xl xS xp a1 Z) : zI l yX5_readTimes wsX5_readTimes ({ frames := 1, cells := 0, slots := 0, locals := 21 }) dC dI kI kA kC sz 0 0 [.ref xo, .int a1] (kText kI xo xs xv xl xS xV xt xp) (fun (r : Int32) (u : Int32) => Z r u) (fun (u : Int32) => (kText kI xo xs xv xl xS xV xt u)) := by
  refine zI.of (cc := cX5_readTimes) (maxL := 3) (ty := .int) (by decide) rfl (Nat.le_of_ble_eq_true rfl) (Or.inl rfl) ?_
  intro p e s m args below meth c A Q C0 hret ls hl
  obtain ⟨hx, hb, hr, hml, hts, hown, hin, hP, hK, hD, hA, hS⟩ := C0
  have hown : s.vm.findClass RX5 = some m.cls := hown
  have hl : lv_has ls 3 [(0, .ref xo), (1, .int a1)] := hl
  unfold Wp_X5_readTimes at hw
  refine lv_aload_n hx hb dX5_readTimes_0 rfl (lv_at hl 0 rfl) ?_
  refine lv_iload_n hx hb dX5_readTimes_1 rfl (lv_at hl 1 rfl) ?_
  refine va_put (D := (dC, dI)) (ci := 5) (v := .int a1) (ty := .int) (C := RX5) (T := TX5) (N := 5) hx hb hts in_X5_readTimes_X5 tyX5 tyX5_ok nmX5 hown hK hP hD hS 0 rfl rfl 4 (by decide) (hts (.fieldLink RX5 25 "CakeMarks$ValueText" "place" "I") (List.mem_of_getElem? (i := 1) rfl)) (fun _ h9 => h9) rfl (by decide +kernel) rfl rfl (Nat.le_of_ble_eq_true rfl) dX5_readTimes_2 (fun H locs hP hD hS => ?_)
  have hP : va_P (dC, dI) vwCl (kText kI xo xs xv xl xS xV xt a1) H := hP
  have hD : va_D A (kText kI xo xs xv xl xS xV xt a1) := hD
  refine lv_aload_n hx hb dX5_readTimes_5 rfl (lv_at hl 0 rfl) ?_
  refine lv_iload_n hx hb dX5_readTimes_6 rfl (lv_at hl 1 rfl) ?_
  refine zcallI (ci := 5) (q0 := 0) (As := [.int a1]) (rest := []) (wr := ([] : va_W)) (Wn := fun u => (kText kI xo xs xv xl xS xV xt a1)) ⟨hx, hb, hml, hown, hts⟩ (c_X5_isDigit l dC dI kI kA kC xo xs xv _ xl xS xV xt a1 a1 _ hw) (cwV 1 hts gX5_readTimes_X5_isDigit rfl rfl rfl (by decide +kernel) ⟨Nat.le_of_ble_eq_true rfl, Nat.le_of_ble_eq_true rfl⟩) hK hP hD hS hA [0, 1, 2] [] [0, 1, 2] rfl rfl (by decide) (by decide) (by decide) (fun u => rfl) (by decide) rfl rfl rfl rfl hl.1 rfl (Nat.le_of_ble_eq_true rfl) dX5_readTimes_7 ⟨Nat.zero_le _, Nat.zero_le _⟩ (fun r_1 u H locs hw hP hD hS => ?_)
  have hP : va_P (dC, dI) vwCl (kText kI xo xs xv xl xS xV xt a1) H := hP
  have hD : va_D A (kText kI xo xs xv xl xS xV xt a1) := hD
  refine lv_if_eq (tgt := 24) hx hb dX5_readTimes_10 (by decide) (fun c_2 => ?_) (fun c_2 => ?_)
  · have hw := hw.1 c_2
    refine lv_iconst (v := (0 : Int32)) hx hb dX5_readTimes_24 (by decide) ?_
    exact hret 25 (0 : Int32) a1 _ _ _ (fun h => absurd h (by decide)) hw hP hD hS dX5_readTimes_25
  · have hw := hw.2 c_2
    refine lv_aload_n hx hb dX5_readTimes_13 rfl (lv_at hl 0 rfl) ?_
    refine va_get (D := (dC, dI)) (ci := 5) (v := .ref xs) (C := RX5) (T := TX5) (N := 5) hx hb hts in_X5_readTimes_X5 hown hK hP 0 rfl rfl 1 (by decide) (hts (.fieldLink RX5 15 "CakeMarks$ValueText" "signs" "[I") (List.mem_of_getElem? (i := 2) rfl)) (fun _ h9 => h9) rfl dX5_readTimes_14 ?_
    refine lv_iload_n hx hb dX5_readTimes_17 rfl (lv_at hl 1 rfl) ?_
    obtain ⟨h_3, hw⟩ := hw
    refine va_iald hx hb hK hP 1 0 rfl rfl h_3 dX5_readTimes_18 ?_
    refine lv_bipush (v := (48 : Int32)) hx hb dX5_readTimes_19 (by decide) ?_
    refine lv_icmp_ne (tgt := 26) hx hb dX5_readTimes_21 (by decide) (fun c_4 => ?_) (fun c_4 => ?_)
    · have hw := hw.1 c_4
      refine lv_aload_n hx hb dX5_readTimes_26 rfl (lv_at hl 0 rfl) ?_
      refine va_get (D := (dC, dI)) (ci := 5) (v := .ref xs) (C := RX5) (T := TX5) (N := 5) hx hb hts in_X5_readTimes_X5 hown hK hP 0 rfl rfl 1 (by decide) (hts (.fieldLink RX5 15 "CakeMarks$ValueText" "signs" "[I") (List.mem_of_getElem? (i := 2) rfl)) (fun _ h9 => h9) rfl dX5_readTimes_27 ?_
      refine lv_iload_n hx hb dX5_readTimes_30 rfl (lv_at hl 1 rfl) ?_
      refine va_iald hx hb hK hP 1 0 rfl rfl h_3 dX5_readTimes_31 ?_
      refine lv_bipush (v := (48 : Int32)) hx hb dX5_readTimes_32 (by decide) ?_
      refine lv_isub hx hb dX5_readTimes_34 ?_
      refine lv_istore_n (lv' := [(2, .int ((xS a1.toNatClampNeg) - (48 : Int32))), (0, .ref xo), (1, .int a1)]) hx hb dX5_readTimes_35 rfl hl (by decide) rfl (fun ls hl => ?_)
      refine lv_aload_n hx hb dX5_readTimes_36 rfl (lv_at hl 1 rfl) ?_
      refine lv_dup hx hb dX5_readTimes_37 rfl ?_
      refine va_get (D := (dC, dI)) (ci := 5) (v := .int a1) (C := RX5) (T := TX5) (N := 5) hx hb hts in_X5_readTimes_X5 hown hK hP 0 rfl rfl 4 (by decide) (hts (.fieldLink RX5 25 "CakeMarks$ValueText" "place" "I") (List.mem_of_getElem? (i := 1) rfl)) (fun _ h9 => h9) rfl dX5_readTimes_38 ?_
      refine lv_iconst (v := (1 : Int32)) hx hb dX5_readTimes_41 (by decide) ?_
      refine lv_iadd hx hb dX5_readTimes_42 ?_
      refine va_put (D := (dC, dI)) (ci := 5) (v := .int (a1 + (1 : Int32))) (ty := .int) (C := RX5) (T := TX5) (N := 5) hx hb hts in_X5_readTimes_X5 tyX5 tyX5_ok nmX5 hown hK hP hD hS 0 rfl rfl 4 (by decide) (hts (.fieldLink RX5 25 "CakeMarks$ValueText" "place" "I") (List.mem_of_getElem? (i := 1) rfl)) (fun _ h9 => h9) rfl (by decide +kernel) rfl rfl (Nat.le_of_ble_eq_true rfl) dX5_readTimes_43 (fun H locs hP hD hS => ?_)
      have hP : va_P (dC, dI) vwCl (kText kI xo xs xv xl xS xV xt (a1 + (1 : Int32))) H := hP
      have hD : va_D A (kText kI xo xs xv xl xS xV xt (a1 + (1 : Int32))) := hD
      refine lv_aload_n hx hb dX5_readTimes_46 rfl (lv_at hl 1 rfl) ?_
      refine lv_aload_n hx hb dX5_readTimes_47 rfl (lv_at hl 1 rfl) ?_
      refine va_get (D := (dC, dI)) (ci := 5) (v := .int (a1 + (1 : Int32))) (C := RX5) (T := TX5) (N := 5) hx hb hts in_X5_readTimes_X5 hown hK hP 0 rfl rfl 4 (by decide) (hts (.fieldLink RX5 25 "CakeMarks$ValueText" "place" "I") (List.mem_of_getElem? (i := 1) rfl)) (fun _ h9 => h9) rfl dX5_readTimes_48 ?_
      refine zcallI (ci := 5) (q0 := 0) (As := [.int (a1 + (1 : Int32))]) (rest := []) (wr := ([] : va_W)) (Wn := fun u => (kText kI xo xs xv xl xS xV xt (a1 + (1 : Int32)))) ⟨hx, hb, hml, hown, hts⟩ (c_X5_isDigit l dC dI kI kA kC xo xs xv _ xl xS xV xt (a1 + (1 : Int32)) (a1 + (1 : Int32)) _ hw) (cwV 1 hts gX5_readTimes_X5_isDigit rfl rfl rfl (by decide +kernel) ⟨Nat.le_of_ble_eq_true rfl, Nat.le_of_ble_eq_true rfl⟩) hK hP hD hS hA [0, 1, 2] [] [0, 1, 2] rfl rfl (by decide) (by decide) (by decide) (fun u => rfl) (by decide) rfl rfl rfl rfl hl.1 rfl (Nat.le_of_ble_eq_true rfl) dX5_readTimes_51 ⟨Nat.zero_le _, Nat.zero_le _⟩ (fun r_5 u H locs hw hP hD hS => ?_)
      have hP : va_P (dC, dI) vwCl (kText kI xo xs xv xl xS xV xt (a1 + (1 : Int32))) H := hP
      have hD : va_D A (kText kI xo xs xv xl xS xV xt (a1 + (1 : Int32))) := hD
      refine lv_if_eq (tgt := 98) hx hb dX5_readTimes_54 (by decide) (fun c_6 => ?_) (fun c_6 => ?_)
      · have hw := hw.1 c_6
        refine lv_iload_n hx hb dX5_readTimes_98 rfl (lv_at hl 0 rfl) ?_
        exact hret 99 ((xS a1.toNatClampNeg) - (48 : Int32)) (a1 + (1 : Int32)) _ _ _ (fun h => absurd h (by decide)) hw hP hD hS dX5_readTimes_99
      · have hw := hw.2 c_6
        refine lv_bipush (v := (10 : Int32)) hx hb dX5_readTimes_57 (by decide) ?_
        refine lv_iload_n hx hb dX5_readTimes_59 rfl (lv_at hl 0 rfl) ?_
        refine lv_imul hx hb dX5_readTimes_60 ?_
        refine lv_aload_n hx hb dX5_readTimes_61 rfl (lv_at hl 1 rfl) ?_
        refine va_get (D := (dC, dI)) (ci := 5) (v := .ref xs) (C := RX5) (T := TX5) (N := 5) hx hb hts in_X5_readTimes_X5 hown hK hP 0 rfl rfl 1 (by decide) (hts (.fieldLink RX5 15 "CakeMarks$ValueText" "signs" "[I") (List.mem_of_getElem? (i := 2) rfl)) (fun _ h9 => h9) rfl dX5_readTimes_62 ?_
        refine lv_aload_n hx hb dX5_readTimes_65 rfl (lv_at hl 1 rfl) ?_
        refine va_get (D := (dC, dI)) (ci := 5) (v := .int (a1 + (1 : Int32))) (C := RX5) (T := TX5) (N := 5) hx hb hts in_X5_readTimes_X5 hown hK hP 0 rfl rfl 4 (by decide) (hts (.fieldLink RX5 25 "CakeMarks$ValueText" "place" "I") (List.mem_of_getElem? (i := 1) rfl)) (fun _ h9 => h9) rfl dX5_readTimes_66 ?_
        obtain ⟨h_7, hw⟩ := hw
        refine va_iald hx hb hK hP 1 0 rfl rfl h_7 dX5_readTimes_69 ?_
        refine lv_iadd hx hb dX5_readTimes_70 ?_
        refine lv_bipush (v := (48 : Int32)) hx hb dX5_readTimes_71 (by decide) ?_
        refine lv_isub hx hb dX5_readTimes_73 ?_
        refine lv_istore_n (lv' := [(2, .int ((((10 : Int32) * ((xS a1.toNatClampNeg) - (48 : Int32))) + (xS (a1 + (1 : Int32)).toNatClampNeg)) - (48 : Int32))), (0, .ref xo), (1, .int a1)]) hx hb dX5_readTimes_74 rfl hl (by decide) rfl (fun ls hl => ?_)
        refine lv_aload_n hx hb dX5_readTimes_75 rfl (lv_at hl 1 rfl) ?_
        refine lv_dup hx hb dX5_readTimes_76 rfl ?_
        refine va_get (D := (dC, dI)) (ci := 5) (v := .int (a1 + (1 : Int32))) (C := RX5) (T := TX5) (N := 5) hx hb hts in_X5_readTimes_X5 hown hK hP 0 rfl rfl 4 (by decide) (hts (.fieldLink RX5 25 "CakeMarks$ValueText" "place" "I") (List.mem_of_getElem? (i := 1) rfl)) (fun _ h9 => h9) rfl dX5_readTimes_77 ?_
        refine lv_iconst (v := (1 : Int32)) hx hb dX5_readTimes_80 (by decide) ?_
        refine lv_iadd hx hb dX5_readTimes_81 ?_
        refine va_put (D := (dC, dI)) (ci := 5) (v := .int ((a1 + (1 : Int32)) + (1 : Int32))) (ty := .int) (C := RX5) (T := TX5) (N := 5) hx hb hts in_X5_readTimes_X5 tyX5 tyX5_ok nmX5 hown hK hP hD hS 0 rfl rfl 4 (by decide) (hts (.fieldLink RX5 25 "CakeMarks$ValueText" "place" "I") (List.mem_of_getElem? (i := 1) rfl)) (fun _ h9 => h9) rfl (by decide +kernel) rfl rfl (Nat.le_of_ble_eq_true rfl) dX5_readTimes_82 (fun H locs hP hD hS => ?_)
        have hP : va_P (dC, dI) vwCl (kText kI xo xs xv xl xS xV xt ((a1 + (1 : Int32)) + (1 : Int32))) H := hP
        have hD : va_D A (kText kI xo xs xv xl xS xV xt ((a1 + (1 : Int32)) + (1 : Int32))) := hD
        refine lv_aload_n hx hb dX5_readTimes_85 rfl (lv_at hl 1 rfl) ?_
        refine lv_aload_n hx hb dX5_readTimes_86 rfl (lv_at hl 1 rfl) ?_
        refine va_get (D := (dC, dI)) (ci := 5) (v := .int ((a1 + (1 : Int32)) + (1 : Int32))) (C := RX5) (T := TX5) (N := 5) hx hb hts in_X5_readTimes_X5 hown hK hP 0 rfl rfl 4 (by decide) (hts (.fieldLink RX5 25 "CakeMarks$ValueText" "place" "I") (List.mem_of_getElem? (i := 1) rfl)) (fun _ h9 => h9) rfl dX5_readTimes_87 ?_
        refine zcallI (ci := 5) (q0 := 0) (As := [.int ((a1 + (1 : Int32)) + (1 : Int32))]) (rest := []) (wr := ([] : va_W)) (Wn := fun u => (kText kI xo xs xv xl xS xV xt ((a1 + (1 : Int32)) + (1 : Int32)))) ⟨hx, hb, hml, hown, hts⟩ (c_X5_isDigit l dC dI kI kA kC xo xs xv _ xl xS xV xt ((a1 + (1 : Int32)) + (1 : Int32)) ((a1 + (1 : Int32)) + (1 : Int32)) _ hw) (cwV 1 hts gX5_readTimes_X5_isDigit rfl rfl rfl (by decide +kernel) ⟨Nat.le_of_ble_eq_true rfl, Nat.le_of_ble_eq_true rfl⟩) hK hP hD hS hA [0, 1, 2] [] [0, 1, 2] rfl rfl (by decide) (by decide) (by decide) (fun u => rfl) (by decide) rfl rfl rfl rfl hl.1 rfl (Nat.le_of_ble_eq_true rfl) dX5_readTimes_90 ⟨Nat.zero_le _, Nat.zero_le _⟩ (fun r_8 u H locs hw hP hD hS => ?_)
        have hP : va_P (dC, dI) vwCl (kText kI xo xs xv xl xS xV xt ((a1 + (1 : Int32)) + (1 : Int32))) H := hP
        have hD : va_D A (kText kI xo xs xv xl xS xV xt ((a1 + (1 : Int32)) + (1 : Int32))) := hD
        refine lv_if_eq (tgt := 98) hx hb dX5_readTimes_93 (by decide) (fun c_9 => ?_) (fun c_9 => ?_)
        · have hw := hw.1 c_9
          refine lv_iload_n hx hb dX5_readTimes_98 rfl (lv_at hl 0 rfl) ?_
          exact hret 99 ((((10 : Int32) * ((xS a1.toNatClampNeg) - (48 : Int32))) + (xS (a1 + (1 : Int32)).toNatClampNeg)) - (48 : Int32)) ((a1 + (1 : Int32)) + (1 : Int32)) _ _ _ (fun h => absurd h (by decide)) hw hP hD hS dX5_readTimes_99
        · have hw := hw.2 c_9
          refine lv_iconst (v := (0 : Int32)) hx hb dX5_readTimes_96 (by decide) ?_
          exact hret 97 (0 : Int32) ((a1 + (1 : Int32)) + (1 : Int32)) _ _ _ (fun h => absurd h (by decide)) hw hP hD hS dX5_readTimes_97
    · have hw := hw.2 c_4
      refine lv_iconst (v := (0 : Int32)) hx hb dX5_readTimes_24 (by decide) ?_
      exact hret 25 (0 : Int32) a1 _ _ _ (fun h => absurd h (by decide)) hw hP hD hS dX5_readTimes_25
-- CakeMarks$ValueText.readPart()I
def B_X5_readPart_112 (xl : Int32) (xS : Nat → Int32) (Z : Int32 → (Nat → Int32) → Int32 → Int32 → Prop) (J112 : Int32 → Int32 → Int32 → (Nat → Int32) → Int32 → Int32 → Prop) (x1 : Int32) (x2 : Int32) (x3 : Int32) (xV : Nat → Int32) (xt : Int32) (xp : Int32) : Prop := ((x2 ≤ x3 → (Z (-1 : Int32) xV xt xp)) ∧ (¬ x2 ≤ x3 → (((24 : Int32) ≤ xt → (Z (-1 : Int32) xV xt xp)) ∧ (¬ (24 : Int32) ≤ xt → (vp_in xt 24 ∧ (J112 x1 x2 (x3 + (1 : Int32)) (upd xV xt.toNatClampNeg x1) (xt + (1 : Int32)) xp))))))
def Wp_X5_readPart_112 (xl : Int32) (xS : Nat → Int32) (Z : Int32 → (Nat → Int32) → Int32 → Int32 → Prop) (x1 : Int32) (x2 : Int32) (x3 : Int32) (xV : Nat → Int32) (xt : Int32) (xp : Int32) : Prop := ∀ (I112 : Int32 → Int32 → Int32 → (Nat → Int32) → Int32 → Int32 → Prop), (∀ (J112 : Int32 → Int32 → Int32 → (Nat → Int32) → Int32 → Int32 → Prop), (∀ (x1 : Int32) (x2 : Int32) (x3 : Int32) (xV : Nat → Int32) (xt : Int32) (xp : Int32), J112 x1 x2 x3 xV xt xp → I112 x1 x2 x3 xV xt xp) → ∀ (x1 : Int32) (x2 : Int32) (x3 : Int32) (xV : Nat → Int32) (xt : Int32) (xp : Int32), B_X5_readPart_112 xl xS Z J112 x1 x2 x3 xV xt xp → I112 x1 x2 x3 xV xt xp) → I112 x1 x2 x3 xV xt xp
theorem F_X5_readPart_112 (xl : Int32) (xS : Nat → Int32) (Z : Int32 → (Nat → Int32) → Int32 → Int32 → Prop) (x1 : Int32) (x2 : Int32) (x3 : Int32) (xV : Nat → Int32) (xt : Int32) (xp : Int32) (h : B_X5_readPart_112 xl xS Z (Wp_X5_readPart_112 xl xS Z) x1 x2 x3 xV xt xp) : Wp_X5_readPart_112 xl xS Z x1 x2 x3 xV xt xp := fun I112 h112 => h112 _ (fun x1 x2 x3 xV xt xp hx => hx I112 h112) x1 x2 x3 xV xt xp h
def Wp_X5_readPart (xl : Int32) (xS : Nat → Int32) (xV : Nat → Int32) (xt : Int32) (xp : Int32) (Z : Int32 → (Nat → Int32) → Int32 → Int32 → Prop) : Prop := (((24 : Int32) ≤ xt → (Z xp xV xt xp)) ∧ (¬ (24 : Int32) ≤ xt → (Wp_X5_isDigit xl xS xp (fun r_2 => ((¬ r_2 = (0 : Int32) → (vp_in xp 60 ∧ ((xl ≤ (xp + (1 : Int32)) → ((Wp_X5_readPart_112 xl xS Z) ((xS xp.toNatClampNeg) - (48 : Int32)) (1 : Int32) (0 : Int32) xV xt (xp + (1 : Int32)))) ∧ (¬ xl ≤ (xp + (1 : Int32)) → (vp_in (xp + (1 : Int32)) 60 ∧ ((¬ (xS (xp + (1 : Int32)).toNatClampNeg) = (120 : Int32) → ((Wp_X5_readPart_112 xl xS Z) ((xS xp.toNatClampNeg) - (48 : Int32)) (1 : Int32) (0 : Int32) xV xt (xp + (1 : Int32)))) ∧ ((xS (xp + (1 : Int32)).toNatClampNeg) = (120 : Int32) → (Wp_X5_readTimes xl xS (xp + (1 : Int32)) ((xp + (1 : Int32)) + (1 : Int32)) (fun r_9 xp_8 => (((0 : Int32) < r_9 → (((xt + r_9) ≤ (24 : Int32) → ((Wp_X5_readPart_112 xl xS Z) ((xS xp.toNatClampNeg) - (48 : Int32)) r_9 (0 : Int32) xV xt xp_8)) ∧ (¬ (xt + r_9) ≤ (24 : Int32) → (Z ((xp + (1 : Int32)) + (1 : Int32)) xV xt xp_8)))) ∧ (¬ (0 : Int32) < r_9 → (Z xp_8 xV xt xp_8)))))))))))) ∧ (r_2 = (0 : Int32) → (Z xp xV xt xp)))))))
theorem in_X5_readPart_X5 : ∀ w ∈ u_ws RX5 TX5 5, w ∈ wsX5_readPart := fun w h => List.mem_cons_of_mem _ (List.mem_append_right _ h)
set_option maxHeartbeats 20000000 in
set_option maxRecDepth 100000 in
theorem c_X5_readPart (l : Launch) (dC : Nat → ClassId) (dI : Nat → Nat → Nat) (kI kA kC : ClassId) (xo : Nat) (xs : Nat) (xv : Nat) (sz : Nat) (xl : Int32) (xS : Nat → Int32) (xV : Nat → Int32) (xt : Int32) (xp : Int32) (Z : Int32 → (Nat → Int32) → Int32 → Int32 → Prop) (hw : Wp_X5_readPart xl xS xV xt xp Z) : zI l yX5_readPart wsX5_readPart ({ frames := 2, cells := 0, slots := 0, locals := 43 }) dC dI kI kA kC sz 0 0 [.ref xo] (kText kI xo xs xv xl xS xV xt xp) (fun (r : Int32) (u : (Nat → Int32) × Int32 × Int32) => Z r u.1 u.2.1 u.2.2) (fun (u : (Nat → Int32) × Int32 × Int32) => (kText kI xo xs xv xl xS u.1 u.2.1 u.2.2)) := by
  refine zI.of (cc := cX5_readPart) (maxL := 4) (ty := .int) (by decide) rfl (Nat.le_of_ble_eq_true rfl) (Or.inl rfl) ?_
  intro p e s m args below meth c A Q C0 hret ls hl
  obtain ⟨hx, hb, hr, hml, hts, hown, hin, hP, hK, hD, hA, hS⟩ := C0
  have hown : s.vm.findClass RX5 = some m.cls := hown
  have hl : lv_has ls 4 [(0, .ref xo)] := hl
  have key : ∀ (J112 : Int32 → Int32 → Int32 → (Nat → Int32) → Int32 → Int32 → Prop) (hJ112 : ∀ (x1 : Int32) (x2 : Int32) (x3 : Int32) (xV : Nat → Int32) (xt : Int32) (xp : Int32), J112 x1 x2 x3 xV xt xp → ∀ (ls : Array Slot) (H : Heap) (locs : List Loc), lv_has ls 4 [(0, .ref xo), (1, .int x1), (2, .int x2), (3, .int x3)] → va_P (dC, dI) vwCl (kText kI xo xs xv xl xS xV xt xp) H → va_D A (kText kI xo xs xv xl xS xV xt xp) → va_S A s.heap H locs → W p l e ({ frames := 2, cells := 0, slots := 0, locals := 43 }) s m args below meth c H locs 0 0 Q (F0 m 112 ls [])), (∀ (x1 : Int32) (x2 : Int32) (x3 : Int32) (xV : Nat → Int32) (xt : Int32) (xp : Int32), B_X5_readPart_112 xl xS Z J112 x1 x2 x3 xV xt xp → ∀ (ls : Array Slot) (H : Heap) (locs : List Loc), lv_has ls 4 [(0, .ref xo), (1, .int x1), (2, .int x2), (3, .int x3)] → va_P (dC, dI) vwCl (kText kI xo xs xv xl xS xV xt xp) H → va_D A (kText kI xo xs xv xl xS xV xt xp) → va_S A s.heap H locs → W p l e ({ frames := 2, cells := 0, slots := 0, locals := 43 }) s m args below meth c H locs 0 0 Q (F0 m 112 ls [])) := by
    intro J112 hJ112
    · intro x1 x2 x3 xV xt xp hw ls H locs hl hP hD hS
      unfold B_X5_readPart_112 at hw
      refine lv_iload_n hx hb dX5_readPart_112 rfl (lv_at hl 3 rfl) ?_
      refine lv_iload_n hx hb dX5_readPart_113 rfl (lv_at hl 2 rfl) ?_
      refine lv_icmp_ge (tgt := 152) hx hb dX5_readPart_114 (by decide) (fun c_12 => ?_) (fun c_12 => ?_)
      · have hw := hw.1 c_12
        refine lv_iconst (v := (-1 : Int32)) hx hb dX5_readPart_152 (by decide) ?_
        exact hret 153 (-1 : Int32) (xV, xt, xp) _ _ _ (fun h => absurd h (by decide)) hw hP hD hS dX5_readPart_153
      · have hw := hw.2 c_12
        refine lv_aload_n hx hb dX5_readPart_117 rfl (lv_at hl 0 rfl) ?_
        refine va_get (D := (dC, dI)) (ci := 5) (v := .int xt) (C := RX5) (T := TX5) (N := 5) hx hb hts in_X5_readPart_X5 hown hK hP 0 rfl rfl 3 (by decide) (hts (.fieldLink RX5 22 "CakeMarks$ValueText" "told" "I") (List.mem_of_getElem? (i := 1) rfl)) (fun _ h9 => h9) rfl dX5_readPart_118 ?_
        refine lv_bipush (v := (24 : Int32)) hx hb dX5_readPart_121 (by decide) ?_
        refine lv_icmp_ge (tgt := 152) hx hb dX5_readPart_123 (by decide) (fun c_13 => ?_) (fun c_13 => ?_)
        · have hw := hw.1 c_13
          refine lv_iconst (v := (-1 : Int32)) hx hb dX5_readPart_152 (by decide) ?_
          exact hret 153 (-1 : Int32) (xV, xt, xp) _ _ _ (fun h => absurd h (by decide)) hw hP hD hS dX5_readPart_153
        · have hw := hw.2 c_13
          refine lv_aload_n hx hb dX5_readPart_126 rfl (lv_at hl 0 rfl) ?_
          refine va_get (D := (dC, dI)) (ci := 5) (v := .ref xv) (C := RX5) (T := TX5) (N := 5) hx hb hts in_X5_readPart_X5 hown hK hP 0 rfl rfl 2 (by decide) (hts (.fieldLink RX5 19 "CakeMarks$ValueText" "values" "[I") (List.mem_of_getElem? (i := 5) rfl)) (fun _ h9 => h9) rfl dX5_readPart_127 ?_
          refine lv_aload_n hx hb dX5_readPart_130 rfl (lv_at hl 0 rfl) ?_
          refine va_get (D := (dC, dI)) (ci := 5) (v := .int xt) (C := RX5) (T := TX5) (N := 5) hx hb hts in_X5_readPart_X5 hown hK hP 0 rfl rfl 3 (by decide) (hts (.fieldLink RX5 22 "CakeMarks$ValueText" "told" "I") (List.mem_of_getElem? (i := 1) rfl)) (fun _ h9 => h9) rfl dX5_readPart_131 ?_
          refine lv_iload_n hx hb dX5_readPart_134 rfl (lv_at hl 1 rfl) ?_
          obtain ⟨h_14, hw⟩ := hw
          refine va_iast hx hb hK hP hD hS 2 0 rfl rfl h_14 dX5_readPart_135 (fun H locs hP hD hS => ?_)
          have hP : va_P (dC, dI) vwCl (kText kI xo xs xv xl xS (upd xV xt.toNatClampNeg x1) xt xp) H := hP
          have hD : va_D A (kText kI xo xs xv xl xS (upd xV xt.toNatClampNeg x1) xt xp) := hD
          refine lv_aload_n hx hb dX5_readPart_136 rfl (lv_at hl 0 rfl) ?_
          refine lv_dup hx hb dX5_readPart_137 rfl ?_
          refine va_get (D := (dC, dI)) (ci := 5) (v := .int xt) (C := RX5) (T := TX5) (N := 5) hx hb hts in_X5_readPart_X5 hown hK hP 0 rfl rfl 3 (by decide) (hts (.fieldLink RX5 22 "CakeMarks$ValueText" "told" "I") (List.mem_of_getElem? (i := 1) rfl)) (fun _ h9 => h9) rfl dX5_readPart_138 ?_
          refine lv_iconst (v := (1 : Int32)) hx hb dX5_readPart_141 (by decide) ?_
          refine lv_iadd hx hb dX5_readPart_142 ?_
          refine va_put (D := (dC, dI)) (ci := 5) (v := .int (xt + (1 : Int32))) (ty := .int) (C := RX5) (T := TX5) (N := 5) hx hb hts in_X5_readPart_X5 tyX5 tyX5_ok nmX5 hown hK hP hD hS 0 rfl rfl 3 (by decide) (hts (.fieldLink RX5 22 "CakeMarks$ValueText" "told" "I") (List.mem_of_getElem? (i := 1) rfl)) (fun _ h9 => h9) rfl (by decide +kernel) rfl rfl (Nat.le_of_ble_eq_true rfl) dX5_readPart_143 (fun H locs hP hD hS => ?_)
          have hP : va_P (dC, dI) vwCl (kText kI xo xs xv xl xS (upd xV xt.toNatClampNeg x1) (xt + (1 : Int32)) xp) H := hP
          have hD : va_D A (kText kI xo xs xv xl xS (upd xV xt.toNatClampNeg x1) (xt + (1 : Int32)) xp) := hD
          refine lv_iinc (v := (x3 + (1 : Int32))) (lv' := [(3, .int (x3 + (1 : Int32))), (0, .ref xo), (1, .int x1), (2, .int x2)]) hx hb dX5_readPart_146 hl (k := 3) rfl (by first | rfl | decide) (by decide) rfl (fun ls hl => ?_)
          refine lv_goto (tgt := 112) hx hb dX5_readPart_149 (by decide) ?_
          exact hJ112 x1 x2 (x3 + (1 : Int32)) (upd xV xt.toNatClampNeg x1) (xt + (1 : Int32)) xp hw ls _ _ (lv_sub hl [1, 2, 3, 0] rfl) hP hD hS
  have hJ112 : ∀ (x1 : Int32) (x2 : Int32) (x3 : Int32) (xV : Nat → Int32) (xt : Int32) (xp : Int32), Wp_X5_readPart_112 xl xS Z x1 x2 x3 xV xt xp → ∀ (ls : Array Slot) (H : Heap) (locs : List Loc), lv_has ls 4 [(0, .ref xo), (1, .int x1), (2, .int x2), (3, .int x3)] → va_P (dC, dI) vwCl (kText kI xo xs xv xl xS xV xt xp) H → va_D A (kText kI xo xs xv xl xS xV xt xp) → va_S A s.heap H locs → W p l e ({ frames := 2, cells := 0, slots := 0, locals := 43 }) s m args below meth c H locs 0 0 Q (F0 m 112 ls []) := fun x1 x2 x3 xV xt xp hv => hv (fun x1 x2 x3 xV xt xp => ∀ (ls : Array Slot) (H : Heap) (locs : List Loc), lv_has ls 4 [(0, .ref xo), (1, .int x1), (2, .int x2), (3, .int x3)] → va_P (dC, dI) vwCl (kText kI xo xs xv xl xS xV xt xp) H → va_D A (kText kI xo xs xv xl xS xV xt xp) → va_S A s.heap H locs → W p l e ({ frames := 2, cells := 0, slots := 0, locals := 43 }) s m args below meth c H locs 0 0 Q (F0 m 112 ls [])) (fun J112 q112 => (key J112 q112))
  unfold Wp_X5_readPart at hw
  refine lv_aload_n hx hb dX5_readPart_0 rfl (lv_at hl 0 rfl) ?_
  refine va_get (D := (dC, dI)) (ci := 5) (v := .int xt) (C := RX5) (T := TX5) (N := 5) hx hb hts in_X5_readPart_X5 hown hK hP 0 rfl rfl 3 (by decide) (hts (.fieldLink RX5 22 "CakeMarks$ValueText" "told" "I") (List.mem_of_getElem? (i := 1) rfl)) (fun _ h9 => h9) rfl dX5_readPart_1 ?_
  refine lv_bipush (v := (24 : Int32)) hx hb dX5_readPart_4 (by decide) ?_
  refine lv_icmp_ge (tgt := 20) hx hb dX5_readPart_6 (by decide) (fun c_1 => ?_) (fun c_1 => ?_)
  · have hw := hw.1 c_1
    refine lv_aload_n hx hb dX5_readPart_20 rfl (lv_at hl 0 rfl) ?_
    refine va_get (D := (dC, dI)) (ci := 5) (v := .int xp) (C := RX5) (T := TX5) (N := 5) hx hb hts in_X5_readPart_X5 hown hK hP 0 rfl rfl 4 (by decide) (hts (.fieldLink RX5 25 "CakeMarks$ValueText" "place" "I") (List.mem_of_getElem? (i := 2) rfl)) (fun _ h9 => h9) rfl dX5_readPart_21 ?_
    exact hret 24 xp (xV, xt, xp) _ _ _ (fun h => absurd h (by decide)) hw hP hD hS dX5_readPart_24
  · have hw := hw.2 c_1
    refine lv_aload_n hx hb dX5_readPart_9 rfl (lv_at hl 0 rfl) ?_
    refine lv_aload_n hx hb dX5_readPart_10 rfl (lv_at hl 0 rfl) ?_
    refine va_get (D := (dC, dI)) (ci := 5) (v := .int xp) (C := RX5) (T := TX5) (N := 5) hx hb hts in_X5_readPart_X5 hown hK hP 0 rfl rfl 4 (by decide) (hts (.fieldLink RX5 25 "CakeMarks$ValueText" "place" "I") (List.mem_of_getElem? (i := 2) rfl)) (fun _ h9 => h9) rfl dX5_readPart_11 ?_
    refine zcallI (ci := 5) (q0 := 0) (As := [.int xp]) (rest := []) (wr := ([] : va_W)) (Wn := fun u => (kText kI xo xs xv xl xS xV xt xp)) ⟨hx, hb, hml, hown, hts⟩ (c_X5_isDigit l dC dI kI kA kC xo xs xv _ xl xS xV xt xp xp _ hw) (cwV 1 hts gX5_readPart_X5_isDigit rfl rfl rfl (by decide +kernel) ⟨Nat.le_of_ble_eq_true rfl, Nat.le_of_ble_eq_true rfl⟩) hK hP hD hS hA [0, 1, 2] [] [0, 1, 2] rfl rfl (by decide) (by decide) (by decide) (fun u => rfl) (by decide) rfl rfl rfl rfl hl.1 rfl (Nat.le_of_ble_eq_true rfl) dX5_readPart_14 ⟨Nat.zero_le _, Nat.zero_le _⟩ (fun r_2 u H locs hw hP hD hS => ?_)
    have hP : va_P (dC, dI) vwCl (kText kI xo xs xv xl xS xV xt xp) H := hP
    have hD : va_D A (kText kI xo xs xv xl xS xV xt xp) := hD
    refine lv_if_ne (tgt := 25) hx hb dX5_readPart_17 (by decide) (fun c_3 => ?_) (fun c_3 => ?_)
    · have hw := hw.1 c_3
      refine lv_aload_n hx hb dX5_readPart_25 rfl (lv_at hl 0 rfl) ?_
      refine va_get (D := (dC, dI)) (ci := 5) (v := .ref xs) (C := RX5) (T := TX5) (N := 5) hx hb hts in_X5_readPart_X5 hown hK hP 0 rfl rfl 1 (by decide) (hts (.fieldLink RX5 15 "CakeMarks$ValueText" "signs" "[I") (List.mem_of_getElem? (i := 3) rfl)) (fun _ h9 => h9) rfl dX5_readPart_26 ?_
      refine lv_aload_n hx hb dX5_readPart_29 rfl (lv_at hl 0 rfl) ?_
      refine va_get (D := (dC, dI)) (ci := 5) (v := .int xp) (C := RX5) (T := TX5) (N := 5) hx hb hts in_X5_readPart_X5 hown hK hP 0 rfl rfl 4 (by decide) (hts (.fieldLink RX5 25 "CakeMarks$ValueText" "place" "I") (List.mem_of_getElem? (i := 2) rfl)) (fun _ h9 => h9) rfl dX5_readPart_30 ?_
      obtain ⟨h_4, hw⟩ := hw
      refine va_iald hx hb hK hP 1 0 rfl rfl h_4 dX5_readPart_33 ?_
      refine lv_bipush (v := (48 : Int32)) hx hb dX5_readPart_34 (by decide) ?_
      refine lv_isub hx hb dX5_readPart_36 ?_
      refine lv_istore_n (lv' := [(1, .int ((xS xp.toNatClampNeg) - (48 : Int32))), (0, .ref xo)]) hx hb dX5_readPart_37 rfl hl (by decide) rfl (fun ls hl => ?_)
      refine lv_aload_n hx hb dX5_readPart_38 rfl (lv_at hl 1 rfl) ?_
      refine lv_dup hx hb dX5_readPart_39 rfl ?_
      refine va_get (D := (dC, dI)) (ci := 5) (v := .int xp) (C := RX5) (T := TX5) (N := 5) hx hb hts in_X5_readPart_X5 hown hK hP 0 rfl rfl 4 (by decide) (hts (.fieldLink RX5 25 "CakeMarks$ValueText" "place" "I") (List.mem_of_getElem? (i := 2) rfl)) (fun _ h9 => h9) rfl dX5_readPart_40 ?_
      refine lv_iconst (v := (1 : Int32)) hx hb dX5_readPart_43 (by decide) ?_
      refine lv_iadd hx hb dX5_readPart_44 ?_
      refine va_put (D := (dC, dI)) (ci := 5) (v := .int (xp + (1 : Int32))) (ty := .int) (C := RX5) (T := TX5) (N := 5) hx hb hts in_X5_readPart_X5 tyX5 tyX5_ok nmX5 hown hK hP hD hS 0 rfl rfl 4 (by decide) (hts (.fieldLink RX5 25 "CakeMarks$ValueText" "place" "I") (List.mem_of_getElem? (i := 2) rfl)) (fun _ h9 => h9) rfl (by decide +kernel) rfl rfl (Nat.le_of_ble_eq_true rfl) dX5_readPart_45 (fun H locs hP hD hS => ?_)
      have hP : va_P (dC, dI) vwCl (kText kI xo xs xv xl xS xV xt (xp + (1 : Int32))) H := hP
      have hD : va_D A (kText kI xo xs xv xl xS xV xt (xp + (1 : Int32))) := hD
      refine lv_iconst (v := (1 : Int32)) hx hb dX5_readPart_48 (by decide) ?_
      refine lv_istore_n (lv' := [(2, .int (1 : Int32)), (1, .int ((xS xp.toNatClampNeg) - (48 : Int32))), (0, .ref xo)]) hx hb dX5_readPart_49 rfl hl (by decide) rfl (fun ls hl => ?_)
      refine lv_aload_n hx hb dX5_readPart_50 rfl (lv_at hl 2 rfl) ?_
      refine va_get (D := (dC, dI)) (ci := 5) (v := .int (xp + (1 : Int32))) (C := RX5) (T := TX5) (N := 5) hx hb hts in_X5_readPart_X5 hown hK hP 0 rfl rfl 4 (by decide) (hts (.fieldLink RX5 25 "CakeMarks$ValueText" "place" "I") (List.mem_of_getElem? (i := 2) rfl)) (fun _ h9 => h9) rfl dX5_readPart_51 ?_
      refine lv_aload_n hx hb dX5_readPart_54 rfl (lv_at hl 2 rfl) ?_
      refine va_get (D := (dC, dI)) (ci := 5) (v := .int xl) (C := RX5) (T := TX5) (N := 5) hx hb hts in_X5_readPart_X5 hown hK hP 0 rfl rfl 0 (by decide) (hts (.fieldLink RX5 9 "CakeMarks$ValueText" "length" "I") (List.mem_of_getElem? (i := 4) rfl)) (fun _ h9 => h9) rfl dX5_readPart_55 ?_
      refine lv_icmp_ge (tgt := 110) hx hb dX5_readPart_58 (by decide) (fun c_5 => ?_) (fun c_5 => ?_)
      · have hw := hw.1 c_5
        refine lv_iconst (v := (0 : Int32)) hx hb dX5_readPart_110 (by decide) ?_
        refine lv_istore_n (lv' := [(3, .int (0 : Int32)), (2, .int (1 : Int32)), (1, .int ((xS xp.toNatClampNeg) - (48 : Int32))), (0, .ref xo)]) hx hb dX5_readPart_111 rfl hl (by decide) rfl (fun ls hl => ?_)
        exact hJ112 ((xS xp.toNatClampNeg) - (48 : Int32)) (1 : Int32) (0 : Int32) xV xt (xp + (1 : Int32)) hw ls _ _ (lv_sub hl [3, 2, 1, 0] rfl) hP hD hS
      · have hw := hw.2 c_5
        refine lv_aload_n hx hb dX5_readPart_61 rfl (lv_at hl 2 rfl) ?_
        refine va_get (D := (dC, dI)) (ci := 5) (v := .ref xs) (C := RX5) (T := TX5) (N := 5) hx hb hts in_X5_readPart_X5 hown hK hP 0 rfl rfl 1 (by decide) (hts (.fieldLink RX5 15 "CakeMarks$ValueText" "signs" "[I") (List.mem_of_getElem? (i := 3) rfl)) (fun _ h9 => h9) rfl dX5_readPart_62 ?_
        refine lv_aload_n hx hb dX5_readPart_65 rfl (lv_at hl 2 rfl) ?_
        refine va_get (D := (dC, dI)) (ci := 5) (v := .int (xp + (1 : Int32))) (C := RX5) (T := TX5) (N := 5) hx hb hts in_X5_readPart_X5 hown hK hP 0 rfl rfl 4 (by decide) (hts (.fieldLink RX5 25 "CakeMarks$ValueText" "place" "I") (List.mem_of_getElem? (i := 2) rfl)) (fun _ h9 => h9) rfl dX5_readPart_66 ?_
        obtain ⟨h_6, hw⟩ := hw
        refine va_iald hx hb hK hP 1 0 rfl rfl h_6 dX5_readPart_69 ?_
        refine lv_bipush (v := (120 : Int32)) hx hb dX5_readPart_70 (by decide) ?_
        refine lv_icmp_ne (tgt := 110) hx hb dX5_readPart_72 (by decide) (fun c_7 => ?_) (fun c_7 => ?_)
        · have hw := hw.1 c_7
          refine lv_iconst (v := (0 : Int32)) hx hb dX5_readPart_110 (by decide) ?_
          refine lv_istore_n (lv' := [(3, .int (0 : Int32)), (2, .int (1 : Int32)), (1, .int ((xS xp.toNatClampNeg) - (48 : Int32))), (0, .ref xo)]) hx hb dX5_readPart_111 rfl hl (by decide) rfl (fun ls hl => ?_)
          exact hJ112 ((xS xp.toNatClampNeg) - (48 : Int32)) (1 : Int32) (0 : Int32) xV xt (xp + (1 : Int32)) hw ls _ _ (lv_sub hl [3, 2, 1, 0] rfl) hP hD hS
        · have hw := hw.2 c_7
          refine lv_aload_n hx hb dX5_readPart_75 rfl (lv_at hl 2 rfl) ?_
          refine va_get (D := (dC, dI)) (ci := 5) (v := .int (xp + (1 : Int32))) (C := RX5) (T := TX5) (N := 5) hx hb hts in_X5_readPart_X5 hown hK hP 0 rfl rfl 4 (by decide) (hts (.fieldLink RX5 25 "CakeMarks$ValueText" "place" "I") (List.mem_of_getElem? (i := 2) rfl)) (fun _ h9 => h9) rfl dX5_readPart_76 ?_
          refine lv_iconst (v := (1 : Int32)) hx hb dX5_readPart_79 (by decide) ?_
          refine lv_iadd hx hb dX5_readPart_80 ?_
          refine lv_istore_n (lv' := [(3, .int ((xp + (1 : Int32)) + (1 : Int32))), (2, .int (1 : Int32)), (1, .int ((xS xp.toNatClampNeg) - (48 : Int32))), (0, .ref xo)]) hx hb dX5_readPart_81 rfl hl (by decide) rfl (fun ls hl => ?_)
          refine lv_aload_n hx hb dX5_readPart_82 rfl (lv_at hl 3 rfl) ?_
          refine lv_iload_n hx hb dX5_readPart_83 rfl (lv_at hl 0 rfl) ?_
          refine zcallI (ci := 5) (q0 := 0) (As := [.int ((xp + (1 : Int32)) + (1 : Int32))]) (rest := []) (wr := ([] : va_W)) (Wn := fun u => (kText kI xo xs xv xl xS xV xt u)) ⟨hx, hb, hml, hown, hts⟩ (c_X5_readTimes l dC dI kI kA kC xo xs xv _ xl xS xV xt (xp + (1 : Int32)) ((xp + (1 : Int32)) + (1 : Int32)) _ hw) (cwV 1 hts gX5_readPart_X5_readTimes rfl rfl rfl (by decide +kernel) ⟨Nat.le_of_ble_eq_true rfl, Nat.le_of_ble_eq_true rfl⟩) hK hP hD hS hA [0, 1, 2] [] [0, 1, 2] rfl rfl (by decide) (by decide) (by decide) (fun u => rfl) (by decide) rfl rfl rfl rfl hl.1 rfl (Nat.le_of_ble_eq_true rfl) dX5_readPart_84 ⟨Nat.zero_le _, Nat.zero_le _⟩ (fun r_9 xp_8 H locs hw hP hD hS => ?_)
          have hP : va_P (dC, dI) vwCl (kText kI xo xs xv xl xS xV xt xp_8) H := hP
          have hD : va_D A (kText kI xo xs xv xl xS xV xt xp_8) := hD
          refine lv_istore_n (lv' := [(2, .int r_9), (3, .int ((xp + (1 : Int32)) + (1 : Int32))), (1, .int ((xS xp.toNatClampNeg) - (48 : Int32))), (0, .ref xo)]) hx hb dX5_readPart_87 rfl hl (by decide) rfl (fun ls hl => ?_)
          refine lv_iload_n hx hb dX5_readPart_88 rfl (lv_at hl 0 rfl) ?_
          refine lv_if_gt (tgt := 97) hx hb dX5_readPart_89 (by decide) (fun c_10 => ?_) (fun c_10 => ?_)
          · have hw := hw.1 c_10
            refine lv_aload_n hx hb dX5_readPart_97 rfl (lv_at hl 3 rfl) ?_
            refine va_get (D := (dC, dI)) (ci := 5) (v := .int xt) (C := RX5) (T := TX5) (N := 5) hx hb hts in_X5_readPart_X5 hown hK hP 0 rfl rfl 3 (by decide) (hts (.fieldLink RX5 22 "CakeMarks$ValueText" "told" "I") (List.mem_of_getElem? (i := 1) rfl)) (fun _ h9 => h9) rfl dX5_readPart_98 ?_
            refine lv_iload_n hx hb dX5_readPart_101 rfl (lv_at hl 0 rfl) ?_
            refine lv_iadd hx hb dX5_readPart_102 ?_
            refine lv_bipush (v := (24 : Int32)) hx hb dX5_readPart_103 (by decide) ?_
            refine lv_icmp_le (tgt := 110) hx hb dX5_readPart_105 (by decide) (fun c_11 => ?_) (fun c_11 => ?_)
            · have hw := hw.1 c_11
              refine lv_iconst (v := (0 : Int32)) hx hb dX5_readPart_110 (by decide) ?_
              refine lv_istore_n (lv' := [(3, .int (0 : Int32)), (2, .int r_9), (1, .int ((xS xp.toNatClampNeg) - (48 : Int32))), (0, .ref xo)]) hx hb dX5_readPart_111 rfl hl (by decide) rfl (fun ls hl => ?_)
              exact hJ112 ((xS xp.toNatClampNeg) - (48 : Int32)) r_9 (0 : Int32) xV xt xp_8 hw ls _ _ (lv_sub hl [3, 2, 1, 0] rfl) hP hD hS
            · have hw := hw.2 c_11
              refine lv_iload_n hx hb dX5_readPart_108 rfl (lv_at hl 1 rfl) ?_
              exact hret 109 ((xp + (1 : Int32)) + (1 : Int32)) (xV, xt, xp_8) _ _ _ (fun h => absurd h (by decide)) hw hP hD hS dX5_readPart_109
          · have hw := hw.2 c_10
            refine lv_aload_n hx hb dX5_readPart_92 rfl (lv_at hl 3 rfl) ?_
            refine va_get (D := (dC, dI)) (ci := 5) (v := .int xp_8) (C := RX5) (T := TX5) (N := 5) hx hb hts in_X5_readPart_X5 hown hK hP 0 rfl rfl 4 (by decide) (hts (.fieldLink RX5 25 "CakeMarks$ValueText" "place" "I") (List.mem_of_getElem? (i := 2) rfl)) (fun _ h9 => h9) rfl dX5_readPart_93 ?_
            exact hret 96 xp_8 (xV, xt, xp_8) _ _ _ (fun h => absurd h (by decide)) hw hP hD hS dX5_readPart_96
    · have hw := hw.2 c_3
      refine lv_aload_n hx hb dX5_readPart_20 rfl (lv_at hl 0 rfl) ?_
      refine va_get (D := (dC, dI)) (ci := 5) (v := .int xp) (C := RX5) (T := TX5) (N := 5) hx hb hts in_X5_readPart_X5 hown hK hP 0 rfl rfl 4 (by decide) (hts (.fieldLink RX5 25 "CakeMarks$ValueText" "place" "I") (List.mem_of_getElem? (i := 2) rfl)) (fun _ h9 => h9) rfl dX5_readPart_21 ?_
      exact hret 24 xp (xV, xt, xp) _ _ _ (fun h => absurd h (by decide)) hw hP hD hS dX5_readPart_24
-- CakeMarks$ValueText.findFailure()I
def B_X5_findFailure_12 (xl : Int32) (xS : Nat → Int32) (Z : Int32 → (Nat → Int32) → Int32 → Int32 → Prop) (J12 : Int32 → (Nat → Int32) → Int32 → Int32 → Prop) (x1 : Int32) (xV : Nat → Int32) (xt : Int32) (xp : Int32) : Prop := (((24 : Int32) < x1 → (Z xp xV xt xp)) ∧ (¬ (24 : Int32) < x1 → (Wp_X5_readPart xl xS xV xt xp (fun r_5 xV_2 xt_3 xp_4 => ((r_5 = (-1 : Int32) → ((xp_4 < xl → (vp_in xp_4 60 ∧ (((xS xp_4.toNatClampNeg) = (44 : Int32) → (J12 (x1 + (1 : Int32)) xV_2 xt_3 (xp_4 + (1 : Int32)))) ∧ (¬ (xS xp_4.toNatClampNeg) = (44 : Int32) → (Z xp_4 xV_2 xt_3 xp_4))))) ∧ (¬ xp_4 < xl → ((¬ xt_3 = (24 : Int32) → (Z xl xV_2 xt_3 xp_4)) ∧ (xt_3 = (24 : Int32) → (Z (-1 : Int32) xV_2 xt_3 xp_4)))))) ∧ (¬ r_5 = (-1 : Int32) → (Z r_5 xV_2 xt_3 xp_4)))))))
def Wp_X5_findFailure_12 (xl : Int32) (xS : Nat → Int32) (Z : Int32 → (Nat → Int32) → Int32 → Int32 → Prop) (x1 : Int32) (xV : Nat → Int32) (xt : Int32) (xp : Int32) : Prop := ∀ (I12 : Int32 → (Nat → Int32) → Int32 → Int32 → Prop), (∀ (J12 : Int32 → (Nat → Int32) → Int32 → Int32 → Prop), (∀ (x1 : Int32) (xV : Nat → Int32) (xt : Int32) (xp : Int32), J12 x1 xV xt xp → I12 x1 xV xt xp) → ∀ (x1 : Int32) (xV : Nat → Int32) (xt : Int32) (xp : Int32), B_X5_findFailure_12 xl xS Z J12 x1 xV xt xp → I12 x1 xV xt xp) → I12 x1 xV xt xp
theorem F_X5_findFailure_12 (xl : Int32) (xS : Nat → Int32) (Z : Int32 → (Nat → Int32) → Int32 → Int32 → Prop) (x1 : Int32) (xV : Nat → Int32) (xt : Int32) (xp : Int32) (h : B_X5_findFailure_12 xl xS Z (Wp_X5_findFailure_12 xl xS Z) x1 xV xt xp) : Wp_X5_findFailure_12 xl xS Z x1 xV xt xp := fun I12 h12 => h12 _ (fun x1 xV xt xp hx => hx I12 h12) x1 xV xt xp h
def Wp_X5_findFailure (xl : Int32) (xS : Nat → Int32) (xV : Nat → Int32) (xt : Int32) (xp : Int32) (Z : Int32 → (Nat → Int32) → Int32 → Int32 → Prop) : Prop := ((Wp_X5_findFailure_12 xl xS Z) (0 : Int32) xV (0 : Int32) (0 : Int32))
theorem in_X5_findFailure_X5 : ∀ w ∈ u_ws RX5 TX5 5, w ∈ wsX5_findFailure := fun w h => List.mem_cons_of_mem _ (List.mem_append_right _ h)
set_option maxHeartbeats 20000000 in
set_option maxRecDepth 100000 in
theorem c_X5_findFailure (l : Launch) (dC : Nat → ClassId) (dI : Nat → Nat → Nat) (kI kA kC : ClassId) (xo : Nat) (xs : Nat) (xv : Nat) (sz : Nat) (xl : Int32) (xS : Nat → Int32) (xV : Nat → Int32) (xt : Int32) (xp : Int32) (Z : Int32 → (Nat → Int32) → Int32 → Int32 → Prop) (hw : Wp_X5_findFailure xl xS xV xt xp Z) : zI l yX5_findFailure wsX5_findFailure ({ frames := 3, cells := 0, slots := 0, locals := 66 }) dC dI kI kA kC sz 0 0 [.ref xo] (kText kI xo xs xv xl xS xV xt xp) (fun (r : Int32) (u : (Nat → Int32) × Int32 × Int32) => Z r u.1 u.2.1 u.2.2) (fun (u : (Nat → Int32) × Int32 × Int32) => (kText kI xo xs xv xl xS u.1 u.2.1 u.2.2)) := by
  refine zI.of (cc := cX5_findFailure) (maxL := 3) (ty := .int) (by decide) rfl (Nat.le_of_ble_eq_true rfl) (Or.inl rfl) ?_
  intro p e s m args below meth c A Q C0 hret ls hl
  obtain ⟨hx, hb, hr, hml, hts, hown, hin, hP, hK, hD, hA, hS⟩ := C0
  have hown : s.vm.findClass RX5 = some m.cls := hown
  have hl : lv_has ls 3 [(0, .ref xo)] := hl
  have key : ∀ (J12 : Int32 → (Nat → Int32) → Int32 → Int32 → Prop) (hJ12 : ∀ (x1 : Int32) (xV : Nat → Int32) (xt : Int32) (xp : Int32), J12 x1 xV xt xp → ∀ (ls : Array Slot) (H : Heap) (locs : List Loc), lv_has ls 3 [(0, .ref xo), (1, .int x1)] → va_P (dC, dI) vwCl (kText kI xo xs xv xl xS xV xt xp) H → va_D A (kText kI xo xs xv xl xS xV xt xp) → va_S A s.heap H locs → W p l e ({ frames := 3, cells := 0, slots := 0, locals := 66 }) s m args below meth c H locs 0 0 Q (F0 m 12 ls [])), (∀ (x1 : Int32) (xV : Nat → Int32) (xt : Int32) (xp : Int32), B_X5_findFailure_12 xl xS Z J12 x1 xV xt xp → ∀ (ls : Array Slot) (H : Heap) (locs : List Loc), lv_has ls 3 [(0, .ref xo), (1, .int x1)] → va_P (dC, dI) vwCl (kText kI xo xs xv xl xS xV xt xp) H → va_D A (kText kI xo xs xv xl xS xV xt xp) → va_S A s.heap H locs → W p l e ({ frames := 3, cells := 0, slots := 0, locals := 66 }) s m args below meth c H locs 0 0 Q (F0 m 12 ls [])) := by
    intro J12 hJ12
    · intro x1 xV xt xp hw ls H locs hl hP hD hS
      unfold B_X5_findFailure_12 at hw
      refine lv_iload_n hx hb dX5_findFailure_12 rfl (lv_at hl 1 rfl) ?_
      refine lv_bipush (v := (24 : Int32)) hx hb dX5_findFailure_13 (by decide) ?_
      refine lv_icmp_gt (tgt := 94) hx hb dX5_findFailure_15 (by decide) (fun c_1 => ?_) (fun c_1 => ?_)
      · have hw := hw.1 c_1
        refine lv_aload_n hx hb dX5_findFailure_94 rfl (lv_at hl 0 rfl) ?_
        refine va_get (D := (dC, dI)) (ci := 5) (v := .int xp) (C := RX5) (T := TX5) (N := 5) hx hb hts in_X5_findFailure_X5 hown hK hP 0 rfl rfl 4 (by decide) (hts (.fieldLink RX5 25 "CakeMarks$ValueText" "place" "I") (List.mem_of_getElem? (i := 2) rfl)) (fun _ h9 => h9) rfl dX5_findFailure_95 ?_
        exact hret 98 xp (xV, xt, xp) _ _ _ (fun h => absurd h (by decide)) hw hP hD hS dX5_findFailure_98
      · have hw := hw.2 c_1
        refine lv_aload_n hx hb dX5_findFailure_18 rfl (lv_at hl 0 rfl) ?_
        refine zcallI (ci := 5) (q0 := 0) (As := []) (rest := []) (wr := ([] : va_W)) (Wn := fun u => (kText kI xo xs xv xl xS u.1 u.2.1 u.2.2)) ⟨hx, hb, hml, hown, hts⟩ (c_X5_readPart l dC dI kI kA kC xo xs xv _ xl xS xV xt xp _ hw) (cwV 0 hts gX5_findFailure_X5_readPart rfl rfl rfl (by decide +kernel) ⟨Nat.le_of_ble_eq_true rfl, Nat.le_of_ble_eq_true rfl⟩) hK hP hD hS hA [0, 1, 2] [] [0, 1, 2] rfl rfl (by decide) (by decide) (by decide) (fun u => rfl) (by decide) rfl rfl rfl rfl hl.1 rfl (Nat.le_of_ble_eq_true rfl) dX5_findFailure_19 ⟨Nat.zero_le _, Nat.zero_le _⟩ (fun r_5 u H locs hw hP hD hS => ?_)
        obtain ⟨xV_2, xt_3, xp_4⟩ := u
        have hP : va_P (dC, dI) vwCl (kText kI xo xs xv xl xS xV_2 xt_3 xp_4) H := hP
        have hD : va_D A (kText kI xo xs xv xl xS xV_2 xt_3 xp_4) := hD
        refine lv_istore_n (lv' := [(2, .int r_5), (0, .ref xo), (1, .int x1)]) hx hb dX5_findFailure_22 rfl hl (by decide) rfl (fun ls hl => ?_)
        refine lv_iload_n hx hb dX5_findFailure_23 rfl (lv_at hl 0 rfl) ?_
        refine lv_iconst (v := (-1 : Int32)) hx hb dX5_findFailure_24 (by decide) ?_
        refine lv_icmp_eq (tgt := 30) hx hb dX5_findFailure_25 (by decide) (fun c_6 => ?_) (fun c_6 => ?_)
        · have hw := hw.1 c_6
          refine lv_aload_n hx hb dX5_findFailure_30 rfl (lv_at hl 1 rfl) ?_
          refine va_get (D := (dC, dI)) (ci := 5) (v := .int xp_4) (C := RX5) (T := TX5) (N := 5) hx hb hts in_X5_findFailure_X5 hown hK hP 0 rfl rfl 4 (by decide) (hts (.fieldLink RX5 25 "CakeMarks$ValueText" "place" "I") (List.mem_of_getElem? (i := 2) rfl)) (fun _ h9 => h9) rfl dX5_findFailure_31 ?_
          refine lv_aload_n hx hb dX5_findFailure_34 rfl (lv_at hl 1 rfl) ?_
          refine va_get (D := (dC, dI)) (ci := 5) (v := .int xl) (C := RX5) (T := TX5) (N := 5) hx hb hts in_X5_findFailure_X5 hown hK hP 0 rfl rfl 0 (by decide) (hts (.fieldLink RX5 9 "CakeMarks$ValueText" "length" "I") (List.mem_of_getElem? (i := 3) rfl)) (fun _ h9 => h9) rfl dX5_findFailure_35 ?_
          refine lv_icmp_lt (tgt := 59) hx hb dX5_findFailure_38 (by decide) (fun c_7 => ?_) (fun c_7 => ?_)
          · have hw := hw.1 c_7
            refine lv_aload_n hx hb dX5_findFailure_59 rfl (lv_at hl 1 rfl) ?_
            refine va_get (D := (dC, dI)) (ci := 5) (v := .ref xs) (C := RX5) (T := TX5) (N := 5) hx hb hts in_X5_findFailure_X5 hown hK hP 0 rfl rfl 1 (by decide) (hts (.fieldLink RX5 15 "CakeMarks$ValueText" "signs" "[I") (List.mem_of_getElem? (i := 4) rfl)) (fun _ h9 => h9) rfl dX5_findFailure_60 ?_
            refine lv_aload_n hx hb dX5_findFailure_63 rfl (lv_at hl 1 rfl) ?_
            refine va_get (D := (dC, dI)) (ci := 5) (v := .int xp_4) (C := RX5) (T := TX5) (N := 5) hx hb hts in_X5_findFailure_X5 hown hK hP 0 rfl rfl 4 (by decide) (hts (.fieldLink RX5 25 "CakeMarks$ValueText" "place" "I") (List.mem_of_getElem? (i := 2) rfl)) (fun _ h9 => h9) rfl dX5_findFailure_64 ?_
            obtain ⟨h_8, hw⟩ := hw
            refine va_iald hx hb hK hP 1 0 rfl rfl h_8 dX5_findFailure_67 ?_
            refine lv_bipush (v := (44 : Int32)) hx hb dX5_findFailure_68 (by decide) ?_
            refine lv_icmp_eq (tgt := 78) hx hb dX5_findFailure_70 (by decide) (fun c_9 => ?_) (fun c_9 => ?_)
            · have hw := hw.1 c_9
              refine lv_aload_n hx hb dX5_findFailure_78 rfl (lv_at hl 1 rfl) ?_
              refine lv_dup hx hb dX5_findFailure_79 rfl ?_
              refine va_get (D := (dC, dI)) (ci := 5) (v := .int xp_4) (C := RX5) (T := TX5) (N := 5) hx hb hts in_X5_findFailure_X5 hown hK hP 0 rfl rfl 4 (by decide) (hts (.fieldLink RX5 25 "CakeMarks$ValueText" "place" "I") (List.mem_of_getElem? (i := 2) rfl)) (fun _ h9 => h9) rfl dX5_findFailure_80 ?_
              refine lv_iconst (v := (1 : Int32)) hx hb dX5_findFailure_83 (by decide) ?_
              refine lv_iadd hx hb dX5_findFailure_84 ?_
              refine va_put (D := (dC, dI)) (ci := 5) (v := .int (xp_4 + (1 : Int32))) (ty := .int) (C := RX5) (T := TX5) (N := 5) hx hb hts in_X5_findFailure_X5 tyX5 tyX5_ok nmX5 hown hK hP hD hS 0 rfl rfl 4 (by decide) (hts (.fieldLink RX5 25 "CakeMarks$ValueText" "place" "I") (List.mem_of_getElem? (i := 2) rfl)) (fun _ h9 => h9) rfl (by decide +kernel) rfl rfl (Nat.le_of_ble_eq_true rfl) dX5_findFailure_85 (fun H locs hP hD hS => ?_)
              have hP : va_P (dC, dI) vwCl (kText kI xo xs xv xl xS xV_2 xt_3 (xp_4 + (1 : Int32))) H := hP
              have hD : va_D A (kText kI xo xs xv xl xS xV_2 xt_3 (xp_4 + (1 : Int32))) := hD
              refine lv_iinc (v := (x1 + (1 : Int32))) (lv' := [(1, .int (x1 + (1 : Int32))), (2, .int r_5), (0, .ref xo)]) hx hb dX5_findFailure_88 hl (k := 2) rfl (by first | rfl | decide) (by decide) rfl (fun ls hl => ?_)
              refine lv_goto (tgt := 12) hx hb dX5_findFailure_91 (by decide) ?_
              exact hJ12 (x1 + (1 : Int32)) xV_2 xt_3 (xp_4 + (1 : Int32)) hw ls _ _ (lv_sub hl [2, 0] rfl) hP hD hS
            · have hw := hw.2 c_9
              refine lv_aload_n hx hb dX5_findFailure_73 rfl (lv_at hl 1 rfl) ?_
              refine va_get (D := (dC, dI)) (ci := 5) (v := .int xp_4) (C := RX5) (T := TX5) (N := 5) hx hb hts in_X5_findFailure_X5 hown hK hP 0 rfl rfl 4 (by decide) (hts (.fieldLink RX5 25 "CakeMarks$ValueText" "place" "I") (List.mem_of_getElem? (i := 2) rfl)) (fun _ h9 => h9) rfl dX5_findFailure_74 ?_
              exact hret 77 xp_4 (xV_2, xt_3, xp_4) _ _ _ (fun h => absurd h (by decide)) hw hP hD hS dX5_findFailure_77
          · have hw := hw.2 c_7
            refine lv_aload_n hx hb dX5_findFailure_41 rfl (lv_at hl 1 rfl) ?_
            refine va_get (D := (dC, dI)) (ci := 5) (v := .int xt_3) (C := RX5) (T := TX5) (N := 5) hx hb hts in_X5_findFailure_X5 hown hK hP 0 rfl rfl 3 (by decide) (hts (.fieldLink RX5 22 "CakeMarks$ValueText" "told" "I") (List.mem_of_getElem? (i := 1) rfl)) (fun _ h9 => h9) rfl dX5_findFailure_42 ?_
            refine lv_bipush (v := (24 : Int32)) hx hb dX5_findFailure_45 (by decide) ?_
            refine lv_icmp_ne (tgt := 54) hx hb dX5_findFailure_47 (by decide) (fun c_10 => ?_) (fun c_10 => ?_)
            · have hw := hw.1 c_10
              refine lv_aload_n hx hb dX5_findFailure_54 rfl (lv_at hl 1 rfl) ?_
              refine va_get (D := (dC, dI)) (ci := 5) (v := .int xl) (C := RX5) (T := TX5) (N := 5) hx hb hts in_X5_findFailure_X5 hown hK hP 0 rfl rfl 0 (by decide) (hts (.fieldLink RX5 9 "CakeMarks$ValueText" "length" "I") (List.mem_of_getElem? (i := 3) rfl)) (fun _ h9 => h9) rfl dX5_findFailure_55 ?_
              exact hret 58 xl (xV_2, xt_3, xp_4) _ _ _ (fun h => absurd h (by decide)) hw hP hD hS dX5_findFailure_58
            · have hw := hw.2 c_10
              refine lv_iconst (v := (-1 : Int32)) hx hb dX5_findFailure_50 (by decide) ?_
              refine lv_goto (tgt := 58) hx hb dX5_findFailure_51 (by decide) ?_
              exact hret 58 (-1 : Int32) (xV_2, xt_3, xp_4) _ _ _ (fun h => absurd h (by decide)) hw hP hD hS dX5_findFailure_58
        · have hw := hw.2 c_6
          refine lv_iload_n hx hb dX5_findFailure_28 rfl (lv_at hl 0 rfl) ?_
          exact hret 29 r_5 (xV_2, xt_3, xp_4) _ _ _ (fun h => absurd h (by decide)) hw hP hD hS dX5_findFailure_29
  have hJ12 : ∀ (x1 : Int32) (xV : Nat → Int32) (xt : Int32) (xp : Int32), Wp_X5_findFailure_12 xl xS Z x1 xV xt xp → ∀ (ls : Array Slot) (H : Heap) (locs : List Loc), lv_has ls 3 [(0, .ref xo), (1, .int x1)] → va_P (dC, dI) vwCl (kText kI xo xs xv xl xS xV xt xp) H → va_D A (kText kI xo xs xv xl xS xV xt xp) → va_S A s.heap H locs → W p l e ({ frames := 3, cells := 0, slots := 0, locals := 66 }) s m args below meth c H locs 0 0 Q (F0 m 12 ls []) := fun x1 xV xt xp hv => hv (fun x1 xV xt xp => ∀ (ls : Array Slot) (H : Heap) (locs : List Loc), lv_has ls 3 [(0, .ref xo), (1, .int x1)] → va_P (dC, dI) vwCl (kText kI xo xs xv xl xS xV xt xp) H → va_D A (kText kI xo xs xv xl xS xV xt xp) → va_S A s.heap H locs → W p l e ({ frames := 3, cells := 0, slots := 0, locals := 66 }) s m args below meth c H locs 0 0 Q (F0 m 12 ls [])) (fun J12 q12 => (key J12 q12))
  unfold Wp_X5_findFailure at hw
  refine lv_aload_n hx hb dX5_findFailure_0 rfl (lv_at hl 0 rfl) ?_
  refine lv_iconst (v := (0 : Int32)) hx hb dX5_findFailure_1 (by decide) ?_
  refine va_put (D := (dC, dI)) (ci := 5) (v := .int (0 : Int32)) (ty := .int) (C := RX5) (T := TX5) (N := 5) hx hb hts in_X5_findFailure_X5 tyX5 tyX5_ok nmX5 hown hK hP hD hS 0 rfl rfl 3 (by decide) (hts (.fieldLink RX5 22 "CakeMarks$ValueText" "told" "I") (List.mem_of_getElem? (i := 1) rfl)) (fun _ h9 => h9) rfl (by decide +kernel) rfl rfl (Nat.le_of_ble_eq_true rfl) dX5_findFailure_2 (fun H locs hP hD hS => ?_)
  have hP : va_P (dC, dI) vwCl (kText kI xo xs xv xl xS xV (0 : Int32) xp) H := hP
  have hD : va_D A (kText kI xo xs xv xl xS xV (0 : Int32) xp) := hD
  refine lv_aload_n hx hb dX5_findFailure_5 rfl (lv_at hl 0 rfl) ?_
  refine lv_iconst (v := (0 : Int32)) hx hb dX5_findFailure_6 (by decide) ?_
  refine va_put (D := (dC, dI)) (ci := 5) (v := .int (0 : Int32)) (ty := .int) (C := RX5) (T := TX5) (N := 5) hx hb hts in_X5_findFailure_X5 tyX5 tyX5_ok nmX5 hown hK hP hD hS 0 rfl rfl 4 (by decide) (hts (.fieldLink RX5 25 "CakeMarks$ValueText" "place" "I") (List.mem_of_getElem? (i := 2) rfl)) (fun _ h9 => h9) rfl (by decide +kernel) rfl rfl (Nat.le_of_ble_eq_true rfl) dX5_findFailure_7 (fun H locs hP hD hS => ?_)
  have hP : va_P (dC, dI) vwCl (kText kI xo xs xv xl xS xV (0 : Int32) (0 : Int32)) H := hP
  have hD : va_D A (kText kI xo xs xv xl xS xV (0 : Int32) (0 : Int32)) := hD
  refine lv_iconst (v := (0 : Int32)) hx hb dX5_findFailure_10 (by decide) ?_
  refine lv_istore_n (lv' := [(1, .int (0 : Int32)), (0, .ref xo)]) hx hb dX5_findFailure_11 rfl hl (by decide) rfl (fun ls hl => ?_)
  exact hJ12 (0 : Int32) xV (0 : Int32) (0 : Int32) hw ls _ _ (lv_sub hl [1, 0] rfl) hP hD hS
