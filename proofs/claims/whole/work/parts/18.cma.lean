-- CakeMarks.record()V
def K_X6_record_12 (cg : Int32) (cw : Nat → Int32) (cV : Nat → Nat → Int32) (Z : Int32 → Int32 → (Nat → Int32) → (Nat → Nat → Int32) → (Nat → Nat → Nat → Int32) → Prop) (ss : Int32) (sq : Int32) (qg : Nat → Int32) (qw : Nat → Nat → Int32) (qV : Nat → Nat → Nat → Int32) : Prop := (vp_in ss 5 ∧ (Wp_X0_become (qg (ss.toNatClampNeg)) (qw (ss.toNatClampNeg)) (qV (ss.toNatClampNeg)) cg cw cV (fun qg_11 qw_12 qV_13 => (Z (ss + (1 : Int32)) (0 : Int32) (va_up qg (ss.toNatClampNeg) qg_11) (va_up qw (ss.toNatClampNeg) qw_12) (va_up qV (ss.toNatClampNeg) qV_13)))))
def Wp_X6_record (ss : Int32) (sq : Int32) (cg : Int32) (cw : Nat → Int32) (cV : Nat → Nat → Int32) (qg : Nat → Int32) (qw : Nat → Nat → Int32) (qV : Nat → Nat → Nat → Int32) (Z : Int32 → Int32 → (Nat → Int32) → (Nat → Nat → Int32) → (Nat → Nat → Nat → Int32) → Prop) : Prop := ((ss < (5 : Int32) → (K_X6_record_12 cg cw cV Z ss sq qg qw qV)) ∧ (¬ ss < (5 : Int32) → (Wp_X6_dropOldest ss qg qw qV (fun ss_2 qg_3 qw_4 qV_5 => (K_X6_record_12 cg cw cV Z ss_2 sq qg_3 qw_4 qV_5)))))
theorem in_X6_record_X6 : ∀ w ∈ u_ws RX6 TX6 8, w ∈ wsX6_record := fun w h => List.mem_cons_of_mem _ (List.mem_append_left _ (List.mem_append_right _ h))
set_option maxHeartbeats 20000000 in
set_option maxRecDepth 100000 in
theorem c_X6_record (l : Launch) (dC : Nat → ClassId) (dI : Nat → Nat → Nat) (kI kA kC : ClassId) (so : Nat) (co : Nat) (sh : Nat) (xo : Nat) (mo : Nat) (no : Nat) (djo : Nat) (ca : Nat) (cv : Nat) (cr : Nat → Nat) (qo : Nat → Nat) (qa : Nat → Nat) (qv : Nat → Nat) (qr : Nat → Nat → Nat) (sz : Nat) (ss : Int32) (sq : Int32) (cg : Int32) (cw : Nat → Int32) (cV : Nat → Nat → Int32) (qg : Nat → Int32) (qw : Nat → Nat → Int32) (qV : Nat → Nat → Nat → Int32) (Z : Int32 → Int32 → (Nat → Int32) → (Nat → Nat → Int32) → (Nat → Nat → Nat → Int32) → Prop) (hw : Wp_X6_record ss sq cg cw cV qg qw qV Z) : zV l yX6_record wsX6_record ({ frames := 3, cells := 0, slots := 0, locals := 74 }) dC dI kI kA kC sz 0 0 [.ref so] ((kRoot so co sh xo mo no djo ss sq) ++ ((kCake kI kA co ca cv cr cg cw cV) ++ (kHist kI kA kC sh qo qa qv qr qg qw qV))) (fun (u : Int32 × Int32 × (Nat → Int32) × (Nat → Nat → Int32) × (Nat → Nat → Nat → Int32) × (Nat → Nat) × (Nat → Nat) × (Nat → Nat) × (Nat → Nat → Nat)) => Z u.1 u.2.1 u.2.2.1 u.2.2.2.1 u.2.2.2.2.1) (fun (u : Int32 × Int32 × (Nat → Int32) × (Nat → Nat → Int32) × (Nat → Nat → Nat → Int32) × (Nat → Nat) × (Nat → Nat) × (Nat → Nat) × (Nat → Nat → Nat)) => ((kRoot so co sh xo mo no djo u.1 u.2.1) ++ ((kCake kI kA co ca cv cr cg cw cV) ++ (kHist kI kA kC sh u.2.2.2.2.2.1 u.2.2.2.2.2.2.1 u.2.2.2.2.2.2.2.1 u.2.2.2.2.2.2.2.2 u.2.2.1 u.2.2.2.1 u.2.2.2.2.1)))) := by
  refine zV.of (cc := cX6_record) (maxL := 1) (by decide) rfl (Nat.le_of_ble_eq_true rfl) ?_
  intro p e s m args below meth c A Q C0 hret ls hl
  obtain ⟨hx, hb, hr, hml, hts, hown, hin, hP, hK, hD, hA, hS⟩ := C0
  have hown : s.vm.findClass RX6 = some m.cls := hown
  have hl : lv_has ls 1 [(0, .ref so)] := hl
  have k_12 : ∀ (ss : Int32) (sq : Int32) (qg : Nat → Int32) (qw : Nat → Nat → Int32) (qV : Nat → Nat → Nat → Int32), K_X6_record_12 cg cw cV Z ss sq qg qw qV → ∀ (qo : Nat → Nat) (qa : Nat → Nat) (qv : Nat → Nat) (qr : Nat → Nat → Nat), ∀ (ls : Array Slot) (H : Heap) (locs : List Loc), lv_has ls 1 [(0, .ref so)] → va_P (dC, dI) vwCl ((kRoot so co sh xo mo no djo ss sq) ++ ((kCake kI kA co ca cv cr cg cw cV) ++ (kHist kI kA kC sh qo qa qv qr qg qw qV))) H → va_D A ((kRoot so co sh xo mo no djo ss sq) ++ ((kCake kI kA co ca cv cr cg cw cV) ++ (kHist kI kA kC sh qo qa qv qr qg qw qV))) → va_S A s.heap H locs → W p l e ({ frames := 3, cells := 0, slots := 0, locals := 74 }) s m args below meth c H locs 0 0 Q (F0 m 12 ls []) := by
    intro ss sq qg qw qV hw qo qa qv qr ls H locs hl hP hD hS
    unfold K_X6_record_12 at hw
    refine lv_aload_n hx hb dX6_record_12 rfl (lv_at hl 0 rfl) ?_
    refine va_get (D := (dC, dI)) (ci := 6) (v := .ref sh) (C := RX6) (T := TX6) (N := 8) hx hb hts in_X6_record_X6 hown hK hP 0 rfl rfl 1 (by decide) (hts (.fieldLink RX6 16 "CakeMarks" "history" "[LCakeMarks$Cake;") (List.mem_of_getElem? (i := 2) rfl)) (fun _ h9 => h9) rfl dX6_record_13 ?_
    refine lv_aload_n hx hb dX6_record_16 rfl (lv_at hl 0 rfl) ?_
    refine va_get (D := (dC, dI)) (ci := 6) (v := .int ss) (C := RX6) (T := TX6) (N := 8) hx hb hts in_X6_record_X6 hown hK hP 0 rfl rfl 2 (by decide) (hts (.fieldLink RX6 20 "CakeMarks" "states" "I") (List.mem_of_getElem? (i := 1) rfl)) (fun _ h9 => h9) rfl dX6_record_17 ?_
    obtain ⟨h_10, hw⟩ := hw
    refine zald hx hb hK hP 8 2 rfl rfl rfl h_10 rfl dX6_record_20 ?_
    have n_14 : ss.toNatClampNeg = 0 ∨ ss.toNatClampNeg = 1 ∨ ss.toNatClampNeg = 2 ∨ ss.toNatClampNeg = 3 ∨ ss.toNatClampNeg = 4 := by have := z_lt h_10; omega
    rcases n_14 with n_14 | n_14 | n_14 | n_14 | n_14
    · rw [n_14] at hw ⊢
      refine lv_aload_n hx hb dX6_record_21 rfl (lv_at hl 0 rfl) ?_
      refine va_get (D := (dC, dI)) (ci := 6) (v := .ref co) (C := RX6) (T := TX6) (N := 8) hx hb hts in_X6_record_X6 hown hK hP 0 rfl rfl 0 (by decide) (hts (.fieldLink RX6 10 "CakeMarks" "cake" "LCakeMarks$Cake;") (List.mem_of_getElem? (i := 3) rfl)) (fun _ h9 => h9) rfl dX6_record_22 ?_
      refine zcallV (ci := 0) (q0 := 0) (As := [.ref co]) (rest := []) (wr := (((kRoot so co sh xo mo no djo ss sq) ++ (([(sh, zr kC 5 qo)] ++ (kCake kI kA (qo 1) (qa 1) (qv 1) (qr 1) (qg 1) (qw 1) (qV 1) ++ (kCake kI kA (qo 2) (qa 2) (qv 2) (qr 2) (qg 2) (qw 2) (qV 2) ++ (kCake kI kA (qo 3) (qa 3) (qv 3) (qr 3) (qg 3) (qw 3) (qV 3) ++ kCake kI kA (qo 4) (qa 4) (qv 4) (qr 4) (qg 4) (qw 4) (qV 4))))) : va_W)) : va_W)) (Wn := fun u => ((kRoot so co sh xo mo no djo ss sq) ++ ((kCake kI kA co ca cv cr cg cw cV) ++ (kHist kI kA kC sh qo qa qv qr (va_up qg 0 u.1) (va_up qw 0 u.2.1) (va_up qV 0 u.2.2))))) ⟨hx, hb, hml, hown, hts⟩ (c_X0_become l dC dI kI kA kC (qo 0) (qa 0) (qv 0) (qr 0) co ca cv cr _ (qg 0) (qw 0) (qV 0) cg cw cV _ hw) (cwV 1 hts gX6_record_X0_become rfl rfl rfl (by decide +kernel) ⟨Nat.le_of_ble_eq_true rfl, Nat.le_of_ble_eq_true rfl⟩) hK hP hD hS hA [9, 10, 11, 12, 13, 14, 15, 1, 2, 3, 4, 5, 6, 7] [0, 8, 16, 17, 18, 19, 20, 21, 22, 23, 24, 25, 26, 27, 28, 29, 30, 31, 32, 33, 34, 35, 36, 37, 38, 39, 40, 41, 42, 43] [0, 37, 38, 39, 40, 41, 42, 43, 1, 30, 31, 32, 33, 34, 35, 36, 2, 3, 4, 5, 6, 7, 8, 9, 10, 11, 12, 13, 14, 15, 16, 17, 18, 19, 20, 21, 22, 23, 24, 25, 26, 27, 28, 29] rfl rfl (by decide) (by decide) (by decide) (fun u => rfl) (by decide) rfl rfl rfl rfl hl.1 rfl (Nat.le_of_ble_eq_true rfl) dX6_record_25 ⟨Nat.zero_le _, Nat.zero_le _⟩ (fun u H locs hw hP hD hS => ?_)
      obtain ⟨qg_15, qw_16, qV_17⟩ := u
      have hP : va_P (dC, dI) vwCl ((kRoot so co sh xo mo no djo ss sq) ++ ((kCake kI kA co ca cv cr cg cw cV) ++ (kHist kI kA kC sh qo qa qv qr (va_up qg 0 qg_15) (va_up qw 0 qw_16) (va_up qV 0 qV_17)))) H := hP
      have hD : va_D A ((kRoot so co sh xo mo no djo ss sq) ++ ((kCake kI kA co ca cv cr cg cw cV) ++ (kHist kI kA kC sh qo qa qv qr (va_up qg 0 qg_15) (va_up qw 0 qw_16) (va_up qV 0 qV_17)))) := hD
      refine lv_aload_n hx hb dX6_record_28 rfl (lv_at hl 0 rfl) ?_
      refine lv_dup hx hb dX6_record_29 rfl ?_
      refine va_get (D := (dC, dI)) (ci := 6) (v := .int ss) (C := RX6) (T := TX6) (N := 8) hx hb hts in_X6_record_X6 hown hK hP 0 rfl rfl 2 (by decide) (hts (.fieldLink RX6 20 "CakeMarks" "states" "I") (List.mem_of_getElem? (i := 1) rfl)) (fun _ h9 => h9) rfl dX6_record_30 ?_
      refine lv_iconst (v := (1 : Int32)) hx hb dX6_record_33 (by decide) ?_
      refine lv_iadd hx hb dX6_record_34 ?_
      refine va_put (D := (dC, dI)) (ci := 6) (v := .int (ss + (1 : Int32))) (ty := .int) (C := RX6) (T := TX6) (N := 8) hx hb hts in_X6_record_X6 tyX6 tyX6_ok nmX6 hown hK hP hD hS 0 rfl rfl 2 (by decide) (hts (.fieldLink RX6 20 "CakeMarks" "states" "I") (List.mem_of_getElem? (i := 1) rfl)) (fun _ h9 => h9) rfl (by decide +kernel) rfl rfl (Nat.le_of_ble_eq_true rfl) dX6_record_35 (fun H locs hP hD hS => ?_)
      have hP : va_P (dC, dI) vwCl ((kRoot so co sh xo mo no djo (ss + (1 : Int32)) sq) ++ ((kCake kI kA co ca cv cr cg cw cV) ++ (kHist kI kA kC sh qo qa qv qr (va_up qg 0 qg_15) (va_up qw 0 qw_16) (va_up qV 0 qV_17)))) H := hP
      have hD : va_D A ((kRoot so co sh xo mo no djo (ss + (1 : Int32)) sq) ++ ((kCake kI kA co ca cv cr cg cw cV) ++ (kHist kI kA kC sh qo qa qv qr (va_up qg 0 qg_15) (va_up qw 0 qw_16) (va_up qV 0 qV_17)))) := hD
      refine lv_aload_n hx hb dX6_record_38 rfl (lv_at hl 0 rfl) ?_
      refine lv_iconst (v := (0 : Int32)) hx hb dX6_record_39 (by decide) ?_
      refine va_put (D := (dC, dI)) (ci := 6) (v := .int (0 : Int32)) (ty := .boolean) (C := RX6) (T := TX6) (N := 8) hx hb hts in_X6_record_X6 tyX6 tyX6_ok nmX6 hown hK hP hD hS 0 rfl rfl 7 (by decide) (hts (.fieldLink RX6 52 "CakeMarks" "searched" "Z") (List.mem_of_getElem? (i := 4) rfl)) (fun _ h9 => h9) rfl (by decide +kernel) rfl rfl (Nat.le_of_ble_eq_true rfl) dX6_record_40 (fun H locs hP hD hS => ?_)
      have hP : va_P (dC, dI) vwCl ((kRoot so co sh xo mo no djo (ss + (1 : Int32)) (0 : Int32)) ++ ((kCake kI kA co ca cv cr cg cw cV) ++ (kHist kI kA kC sh qo qa qv qr (va_up qg 0 qg_15) (va_up qw 0 qw_16) (va_up qV 0 qV_17)))) H := hP
      have hD : va_D A ((kRoot so co sh xo mo no djo (ss + (1 : Int32)) (0 : Int32)) ++ ((kCake kI kA co ca cv cr cg cw cV) ++ (kHist kI kA kC sh qo qa qv qr (va_up qg 0 qg_15) (va_up qw 0 qw_16) (va_up qV 0 qV_17)))) := hD
      exact hret 43 ((ss + (1 : Int32)), (0 : Int32), (va_up qg 0 qg_15), (va_up qw 0 qw_16), (va_up qV 0 qV_17), qo, qa, qv, qr) _ _ _ hw hP hD hS dX6_record_43
    · rw [n_14] at hw ⊢
      refine lv_aload_n hx hb dX6_record_21 rfl (lv_at hl 0 rfl) ?_
      refine va_get (D := (dC, dI)) (ci := 6) (v := .ref co) (C := RX6) (T := TX6) (N := 8) hx hb hts in_X6_record_X6 hown hK hP 0 rfl rfl 0 (by decide) (hts (.fieldLink RX6 10 "CakeMarks" "cake" "LCakeMarks$Cake;") (List.mem_of_getElem? (i := 3) rfl)) (fun _ h9 => h9) rfl dX6_record_22 ?_
      refine zcallV (ci := 0) (q0 := 0) (As := [.ref co]) (rest := []) (wr := (((kRoot so co sh xo mo no djo ss sq) ++ (([(sh, zr kC 5 qo)] ++ (kCake kI kA (qo 0) (qa 0) (qv 0) (qr 0) (qg 0) (qw 0) (qV 0) ++ (kCake kI kA (qo 2) (qa 2) (qv 2) (qr 2) (qg 2) (qw 2) (qV 2) ++ (kCake kI kA (qo 3) (qa 3) (qv 3) (qr 3) (qg 3) (qw 3) (qV 3) ++ kCake kI kA (qo 4) (qa 4) (qv 4) (qr 4) (qg 4) (qw 4) (qV 4))))) : va_W)) : va_W)) (Wn := fun u => ((kRoot so co sh xo mo no djo ss sq) ++ ((kCake kI kA co ca cv cr cg cw cV) ++ (kHist kI kA kC sh qo qa qv qr (va_up qg 1 u.1) (va_up qw 1 u.2.1) (va_up qV 1 u.2.2))))) ⟨hx, hb, hml, hown, hts⟩ (c_X0_become l dC dI kI kA kC (qo 1) (qa 1) (qv 1) (qr 1) co ca cv cr _ (qg 1) (qw 1) (qV 1) cg cw cV _ hw) (cwV 1 hts gX6_record_X0_become rfl rfl rfl (by decide +kernel) ⟨Nat.le_of_ble_eq_true rfl, Nat.le_of_ble_eq_true rfl⟩) hK hP hD hS hA [16, 17, 18, 19, 20, 21, 22, 1, 2, 3, 4, 5, 6, 7] [0, 8, 9, 10, 11, 12, 13, 14, 15, 23, 24, 25, 26, 27, 28, 29, 30, 31, 32, 33, 34, 35, 36, 37, 38, 39, 40, 41, 42, 43] [0, 37, 38, 39, 40, 41, 42, 43, 1, 2, 3, 4, 5, 6, 7, 8, 30, 31, 32, 33, 34, 35, 36, 9, 10, 11, 12, 13, 14, 15, 16, 17, 18, 19, 20, 21, 22, 23, 24, 25, 26, 27, 28, 29] rfl rfl (by decide) (by decide) (by decide) (fun u => rfl) (by decide) rfl rfl rfl rfl hl.1 rfl (Nat.le_of_ble_eq_true rfl) dX6_record_25 ⟨Nat.zero_le _, Nat.zero_le _⟩ (fun u H locs hw hP hD hS => ?_)
      obtain ⟨qg_18, qw_19, qV_20⟩ := u
      have hP : va_P (dC, dI) vwCl ((kRoot so co sh xo mo no djo ss sq) ++ ((kCake kI kA co ca cv cr cg cw cV) ++ (kHist kI kA kC sh qo qa qv qr (va_up qg 1 qg_18) (va_up qw 1 qw_19) (va_up qV 1 qV_20)))) H := hP
      have hD : va_D A ((kRoot so co sh xo mo no djo ss sq) ++ ((kCake kI kA co ca cv cr cg cw cV) ++ (kHist kI kA kC sh qo qa qv qr (va_up qg 1 qg_18) (va_up qw 1 qw_19) (va_up qV 1 qV_20)))) := hD
      refine lv_aload_n hx hb dX6_record_28 rfl (lv_at hl 0 rfl) ?_
      refine lv_dup hx hb dX6_record_29 rfl ?_
      refine va_get (D := (dC, dI)) (ci := 6) (v := .int ss) (C := RX6) (T := TX6) (N := 8) hx hb hts in_X6_record_X6 hown hK hP 0 rfl rfl 2 (by decide) (hts (.fieldLink RX6 20 "CakeMarks" "states" "I") (List.mem_of_getElem? (i := 1) rfl)) (fun _ h9 => h9) rfl dX6_record_30 ?_
      refine lv_iconst (v := (1 : Int32)) hx hb dX6_record_33 (by decide) ?_
      refine lv_iadd hx hb dX6_record_34 ?_
      refine va_put (D := (dC, dI)) (ci := 6) (v := .int (ss + (1 : Int32))) (ty := .int) (C := RX6) (T := TX6) (N := 8) hx hb hts in_X6_record_X6 tyX6 tyX6_ok nmX6 hown hK hP hD hS 0 rfl rfl 2 (by decide) (hts (.fieldLink RX6 20 "CakeMarks" "states" "I") (List.mem_of_getElem? (i := 1) rfl)) (fun _ h9 => h9) rfl (by decide +kernel) rfl rfl (Nat.le_of_ble_eq_true rfl) dX6_record_35 (fun H locs hP hD hS => ?_)
      have hP : va_P (dC, dI) vwCl ((kRoot so co sh xo mo no djo (ss + (1 : Int32)) sq) ++ ((kCake kI kA co ca cv cr cg cw cV) ++ (kHist kI kA kC sh qo qa qv qr (va_up qg 1 qg_18) (va_up qw 1 qw_19) (va_up qV 1 qV_20)))) H := hP
      have hD : va_D A ((kRoot so co sh xo mo no djo (ss + (1 : Int32)) sq) ++ ((kCake kI kA co ca cv cr cg cw cV) ++ (kHist kI kA kC sh qo qa qv qr (va_up qg 1 qg_18) (va_up qw 1 qw_19) (va_up qV 1 qV_20)))) := hD
      refine lv_aload_n hx hb dX6_record_38 rfl (lv_at hl 0 rfl) ?_
      refine lv_iconst (v := (0 : Int32)) hx hb dX6_record_39 (by decide) ?_
      refine va_put (D := (dC, dI)) (ci := 6) (v := .int (0 : Int32)) (ty := .boolean) (C := RX6) (T := TX6) (N := 8) hx hb hts in_X6_record_X6 tyX6 tyX6_ok nmX6 hown hK hP hD hS 0 rfl rfl 7 (by decide) (hts (.fieldLink RX6 52 "CakeMarks" "searched" "Z") (List.mem_of_getElem? (i := 4) rfl)) (fun _ h9 => h9) rfl (by decide +kernel) rfl rfl (Nat.le_of_ble_eq_true rfl) dX6_record_40 (fun H locs hP hD hS => ?_)
      have hP : va_P (dC, dI) vwCl ((kRoot so co sh xo mo no djo (ss + (1 : Int32)) (0 : Int32)) ++ ((kCake kI kA co ca cv cr cg cw cV) ++ (kHist kI kA kC sh qo qa qv qr (va_up qg 1 qg_18) (va_up qw 1 qw_19) (va_up qV 1 qV_20)))) H := hP
      have hD : va_D A ((kRoot so co sh xo mo no djo (ss + (1 : Int32)) (0 : Int32)) ++ ((kCake kI kA co ca cv cr cg cw cV) ++ (kHist kI kA kC sh qo qa qv qr (va_up qg 1 qg_18) (va_up qw 1 qw_19) (va_up qV 1 qV_20)))) := hD
      exact hret 43 ((ss + (1 : Int32)), (0 : Int32), (va_up qg 1 qg_18), (va_up qw 1 qw_19), (va_up qV 1 qV_20), qo, qa, qv, qr) _ _ _ hw hP hD hS dX6_record_43
    · rw [n_14] at hw ⊢
      refine lv_aload_n hx hb dX6_record_21 rfl (lv_at hl 0 rfl) ?_
      refine va_get (D := (dC, dI)) (ci := 6) (v := .ref co) (C := RX6) (T := TX6) (N := 8) hx hb hts in_X6_record_X6 hown hK hP 0 rfl rfl 0 (by decide) (hts (.fieldLink RX6 10 "CakeMarks" "cake" "LCakeMarks$Cake;") (List.mem_of_getElem? (i := 3) rfl)) (fun _ h9 => h9) rfl dX6_record_22 ?_
      refine zcallV (ci := 0) (q0 := 0) (As := [.ref co]) (rest := []) (wr := (((kRoot so co sh xo mo no djo ss sq) ++ (([(sh, zr kC 5 qo)] ++ (kCake kI kA (qo 0) (qa 0) (qv 0) (qr 0) (qg 0) (qw 0) (qV 0) ++ (kCake kI kA (qo 1) (qa 1) (qv 1) (qr 1) (qg 1) (qw 1) (qV 1) ++ (kCake kI kA (qo 3) (qa 3) (qv 3) (qr 3) (qg 3) (qw 3) (qV 3) ++ kCake kI kA (qo 4) (qa 4) (qv 4) (qr 4) (qg 4) (qw 4) (qV 4))))) : va_W)) : va_W)) (Wn := fun u => ((kRoot so co sh xo mo no djo ss sq) ++ ((kCake kI kA co ca cv cr cg cw cV) ++ (kHist kI kA kC sh qo qa qv qr (va_up qg 2 u.1) (va_up qw 2 u.2.1) (va_up qV 2 u.2.2))))) ⟨hx, hb, hml, hown, hts⟩ (c_X0_become l dC dI kI kA kC (qo 2) (qa 2) (qv 2) (qr 2) co ca cv cr _ (qg 2) (qw 2) (qV 2) cg cw cV _ hw) (cwV 1 hts gX6_record_X0_become rfl rfl rfl (by decide +kernel) ⟨Nat.le_of_ble_eq_true rfl, Nat.le_of_ble_eq_true rfl⟩) hK hP hD hS hA [23, 24, 25, 26, 27, 28, 29, 1, 2, 3, 4, 5, 6, 7] [0, 8, 9, 10, 11, 12, 13, 14, 15, 16, 17, 18, 19, 20, 21, 22, 30, 31, 32, 33, 34, 35, 36, 37, 38, 39, 40, 41, 42, 43] [0, 37, 38, 39, 40, 41, 42, 43, 1, 2, 3, 4, 5, 6, 7, 8, 9, 10, 11, 12, 13, 14, 15, 30, 31, 32, 33, 34, 35, 36, 16, 17, 18, 19, 20, 21, 22, 23, 24, 25, 26, 27, 28, 29] rfl rfl (by decide) (by decide) (by decide) (fun u => rfl) (by decide) rfl rfl rfl rfl hl.1 rfl (Nat.le_of_ble_eq_true rfl) dX6_record_25 ⟨Nat.zero_le _, Nat.zero_le _⟩ (fun u H locs hw hP hD hS => ?_)
      obtain ⟨qg_21, qw_22, qV_23⟩ := u
      have hP : va_P (dC, dI) vwCl ((kRoot so co sh xo mo no djo ss sq) ++ ((kCake kI kA co ca cv cr cg cw cV) ++ (kHist kI kA kC sh qo qa qv qr (va_up qg 2 qg_21) (va_up qw 2 qw_22) (va_up qV 2 qV_23)))) H := hP
      have hD : va_D A ((kRoot so co sh xo mo no djo ss sq) ++ ((kCake kI kA co ca cv cr cg cw cV) ++ (kHist kI kA kC sh qo qa qv qr (va_up qg 2 qg_21) (va_up qw 2 qw_22) (va_up qV 2 qV_23)))) := hD
      refine lv_aload_n hx hb dX6_record_28 rfl (lv_at hl 0 rfl) ?_
      refine lv_dup hx hb dX6_record_29 rfl ?_
      refine va_get (D := (dC, dI)) (ci := 6) (v := .int ss) (C := RX6) (T := TX6) (N := 8) hx hb hts in_X6_record_X6 hown hK hP 0 rfl rfl 2 (by decide) (hts (.fieldLink RX6 20 "CakeMarks" "states" "I") (List.mem_of_getElem? (i := 1) rfl)) (fun _ h9 => h9) rfl dX6_record_30 ?_
      refine lv_iconst (v := (1 : Int32)) hx hb dX6_record_33 (by decide) ?_
      refine lv_iadd hx hb dX6_record_34 ?_
      refine va_put (D := (dC, dI)) (ci := 6) (v := .int (ss + (1 : Int32))) (ty := .int) (C := RX6) (T := TX6) (N := 8) hx hb hts in_X6_record_X6 tyX6 tyX6_ok nmX6 hown hK hP hD hS 0 rfl rfl 2 (by decide) (hts (.fieldLink RX6 20 "CakeMarks" "states" "I") (List.mem_of_getElem? (i := 1) rfl)) (fun _ h9 => h9) rfl (by decide +kernel) rfl rfl (Nat.le_of_ble_eq_true rfl) dX6_record_35 (fun H locs hP hD hS => ?_)
      have hP : va_P (dC, dI) vwCl ((kRoot so co sh xo mo no djo (ss + (1 : Int32)) sq) ++ ((kCake kI kA co ca cv cr cg cw cV) ++ (kHist kI kA kC sh qo qa qv qr (va_up qg 2 qg_21) (va_up qw 2 qw_22) (va_up qV 2 qV_23)))) H := hP
      have hD : va_D A ((kRoot so co sh xo mo no djo (ss + (1 : Int32)) sq) ++ ((kCake kI kA co ca cv cr cg cw cV) ++ (kHist kI kA kC sh qo qa qv qr (va_up qg 2 qg_21) (va_up qw 2 qw_22) (va_up qV 2 qV_23)))) := hD
      refine lv_aload_n hx hb dX6_record_38 rfl (lv_at hl 0 rfl) ?_
      refine lv_iconst (v := (0 : Int32)) hx hb dX6_record_39 (by decide) ?_
      refine va_put (D := (dC, dI)) (ci := 6) (v := .int (0 : Int32)) (ty := .boolean) (C := RX6) (T := TX6) (N := 8) hx hb hts in_X6_record_X6 tyX6 tyX6_ok nmX6 hown hK hP hD hS 0 rfl rfl 7 (by decide) (hts (.fieldLink RX6 52 "CakeMarks" "searched" "Z") (List.mem_of_getElem? (i := 4) rfl)) (fun _ h9 => h9) rfl (by decide +kernel) rfl rfl (Nat.le_of_ble_eq_true rfl) dX6_record_40 (fun H locs hP hD hS => ?_)
      have hP : va_P (dC, dI) vwCl ((kRoot so co sh xo mo no djo (ss + (1 : Int32)) (0 : Int32)) ++ ((kCake kI kA co ca cv cr cg cw cV) ++ (kHist kI kA kC sh qo qa qv qr (va_up qg 2 qg_21) (va_up qw 2 qw_22) (va_up qV 2 qV_23)))) H := hP
      have hD : va_D A ((kRoot so co sh xo mo no djo (ss + (1 : Int32)) (0 : Int32)) ++ ((kCake kI kA co ca cv cr cg cw cV) ++ (kHist kI kA kC sh qo qa qv qr (va_up qg 2 qg_21) (va_up qw 2 qw_22) (va_up qV 2 qV_23)))) := hD
      exact hret 43 ((ss + (1 : Int32)), (0 : Int32), (va_up qg 2 qg_21), (va_up qw 2 qw_22), (va_up qV 2 qV_23), qo, qa, qv, qr) _ _ _ hw hP hD hS dX6_record_43
    · rw [n_14] at hw ⊢
      refine lv_aload_n hx hb dX6_record_21 rfl (lv_at hl 0 rfl) ?_
      refine va_get (D := (dC, dI)) (ci := 6) (v := .ref co) (C := RX6) (T := TX6) (N := 8) hx hb hts in_X6_record_X6 hown hK hP 0 rfl rfl 0 (by decide) (hts (.fieldLink RX6 10 "CakeMarks" "cake" "LCakeMarks$Cake;") (List.mem_of_getElem? (i := 3) rfl)) (fun _ h9 => h9) rfl dX6_record_22 ?_
      refine zcallV (ci := 0) (q0 := 0) (As := [.ref co]) (rest := []) (wr := (((kRoot so co sh xo mo no djo ss sq) ++ (([(sh, zr kC 5 qo)] ++ (kCake kI kA (qo 0) (qa 0) (qv 0) (qr 0) (qg 0) (qw 0) (qV 0) ++ (kCake kI kA (qo 1) (qa 1) (qv 1) (qr 1) (qg 1) (qw 1) (qV 1) ++ (kCake kI kA (qo 2) (qa 2) (qv 2) (qr 2) (qg 2) (qw 2) (qV 2) ++ kCake kI kA (qo 4) (qa 4) (qv 4) (qr 4) (qg 4) (qw 4) (qV 4))))) : va_W)) : va_W)) (Wn := fun u => ((kRoot so co sh xo mo no djo ss sq) ++ ((kCake kI kA co ca cv cr cg cw cV) ++ (kHist kI kA kC sh qo qa qv qr (va_up qg 3 u.1) (va_up qw 3 u.2.1) (va_up qV 3 u.2.2))))) ⟨hx, hb, hml, hown, hts⟩ (c_X0_become l dC dI kI kA kC (qo 3) (qa 3) (qv 3) (qr 3) co ca cv cr _ (qg 3) (qw 3) (qV 3) cg cw cV _ hw) (cwV 1 hts gX6_record_X0_become rfl rfl rfl (by decide +kernel) ⟨Nat.le_of_ble_eq_true rfl, Nat.le_of_ble_eq_true rfl⟩) hK hP hD hS hA [30, 31, 32, 33, 34, 35, 36, 1, 2, 3, 4, 5, 6, 7] [0, 8, 9, 10, 11, 12, 13, 14, 15, 16, 17, 18, 19, 20, 21, 22, 23, 24, 25, 26, 27, 28, 29, 37, 38, 39, 40, 41, 42, 43] [0, 37, 38, 39, 40, 41, 42, 43, 1, 2, 3, 4, 5, 6, 7, 8, 9, 10, 11, 12, 13, 14, 15, 16, 17, 18, 19, 20, 21, 22, 30, 31, 32, 33, 34, 35, 36, 23, 24, 25, 26, 27, 28, 29] rfl rfl (by decide) (by decide) (by decide) (fun u => rfl) (by decide) rfl rfl rfl rfl hl.1 rfl (Nat.le_of_ble_eq_true rfl) dX6_record_25 ⟨Nat.zero_le _, Nat.zero_le _⟩ (fun u H locs hw hP hD hS => ?_)
      obtain ⟨qg_24, qw_25, qV_26⟩ := u
      have hP : va_P (dC, dI) vwCl ((kRoot so co sh xo mo no djo ss sq) ++ ((kCake kI kA co ca cv cr cg cw cV) ++ (kHist kI kA kC sh qo qa qv qr (va_up qg 3 qg_24) (va_up qw 3 qw_25) (va_up qV 3 qV_26)))) H := hP
      have hD : va_D A ((kRoot so co sh xo mo no djo ss sq) ++ ((kCake kI kA co ca cv cr cg cw cV) ++ (kHist kI kA kC sh qo qa qv qr (va_up qg 3 qg_24) (va_up qw 3 qw_25) (va_up qV 3 qV_26)))) := hD
      refine lv_aload_n hx hb dX6_record_28 rfl (lv_at hl 0 rfl) ?_
      refine lv_dup hx hb dX6_record_29 rfl ?_
      refine va_get (D := (dC, dI)) (ci := 6) (v := .int ss) (C := RX6) (T := TX6) (N := 8) hx hb hts in_X6_record_X6 hown hK hP 0 rfl rfl 2 (by decide) (hts (.fieldLink RX6 20 "CakeMarks" "states" "I") (List.mem_of_getElem? (i := 1) rfl)) (fun _ h9 => h9) rfl dX6_record_30 ?_
      refine lv_iconst (v := (1 : Int32)) hx hb dX6_record_33 (by decide) ?_
      refine lv_iadd hx hb dX6_record_34 ?_
      refine va_put (D := (dC, dI)) (ci := 6) (v := .int (ss + (1 : Int32))) (ty := .int) (C := RX6) (T := TX6) (N := 8) hx hb hts in_X6_record_X6 tyX6 tyX6_ok nmX6 hown hK hP hD hS 0 rfl rfl 2 (by decide) (hts (.fieldLink RX6 20 "CakeMarks" "states" "I") (List.mem_of_getElem? (i := 1) rfl)) (fun _ h9 => h9) rfl (by decide +kernel) rfl rfl (Nat.le_of_ble_eq_true rfl) dX6_record_35 (fun H locs hP hD hS => ?_)
      have hP : va_P (dC, dI) vwCl ((kRoot so co sh xo mo no djo (ss + (1 : Int32)) sq) ++ ((kCake kI kA co ca cv cr cg cw cV) ++ (kHist kI kA kC sh qo qa qv qr (va_up qg 3 qg_24) (va_up qw 3 qw_25) (va_up qV 3 qV_26)))) H := hP
      have hD : va_D A ((kRoot so co sh xo mo no djo (ss + (1 : Int32)) sq) ++ ((kCake kI kA co ca cv cr cg cw cV) ++ (kHist kI kA kC sh qo qa qv qr (va_up qg 3 qg_24) (va_up qw 3 qw_25) (va_up qV 3 qV_26)))) := hD
      refine lv_aload_n hx hb dX6_record_38 rfl (lv_at hl 0 rfl) ?_
      refine lv_iconst (v := (0 : Int32)) hx hb dX6_record_39 (by decide) ?_
      refine va_put (D := (dC, dI)) (ci := 6) (v := .int (0 : Int32)) (ty := .boolean) (C := RX6) (T := TX6) (N := 8) hx hb hts in_X6_record_X6 tyX6 tyX6_ok nmX6 hown hK hP hD hS 0 rfl rfl 7 (by decide) (hts (.fieldLink RX6 52 "CakeMarks" "searched" "Z") (List.mem_of_getElem? (i := 4) rfl)) (fun _ h9 => h9) rfl (by decide +kernel) rfl rfl (Nat.le_of_ble_eq_true rfl) dX6_record_40 (fun H locs hP hD hS => ?_)
      have hP : va_P (dC, dI) vwCl ((kRoot so co sh xo mo no djo (ss + (1 : Int32)) (0 : Int32)) ++ ((kCake kI kA co ca cv cr cg cw cV) ++ (kHist kI kA kC sh qo qa qv qr (va_up qg 3 qg_24) (va_up qw 3 qw_25) (va_up qV 3 qV_26)))) H := hP
      have hD : va_D A ((kRoot so co sh xo mo no djo (ss + (1 : Int32)) (0 : Int32)) ++ ((kCake kI kA co ca cv cr cg cw cV) ++ (kHist kI kA kC sh qo qa qv qr (va_up qg 3 qg_24) (va_up qw 3 qw_25) (va_up qV 3 qV_26)))) := hD
      exact hret 43 ((ss + (1 : Int32)), (0 : Int32), (va_up qg 3 qg_24), (va_up qw 3 qw_25), (va_up qV 3 qV_26), qo, qa, qv, qr) _ _ _ hw hP hD hS dX6_record_43
    · rw [n_14] at hw ⊢
      refine lv_aload_n hx hb dX6_record_21 rfl (lv_at hl 0 rfl) ?_
      refine va_get (D := (dC, dI)) (ci := 6) (v := .ref co) (C := RX6) (T := TX6) (N := 8) hx hb hts in_X6_record_X6 hown hK hP 0 rfl rfl 0 (by decide) (hts (.fieldLink RX6 10 "CakeMarks" "cake" "LCakeMarks$Cake;") (List.mem_of_getElem? (i := 3) rfl)) (fun _ h9 => h9) rfl dX6_record_22 ?_
      refine zcallV (ci := 0) (q0 := 0) (As := [.ref co]) (rest := []) (wr := (((kRoot so co sh xo mo no djo ss sq) ++ (([(sh, zr kC 5 qo)] ++ (kCake kI kA (qo 0) (qa 0) (qv 0) (qr 0) (qg 0) (qw 0) (qV 0) ++ (kCake kI kA (qo 1) (qa 1) (qv 1) (qr 1) (qg 1) (qw 1) (qV 1) ++ (kCake kI kA (qo 2) (qa 2) (qv 2) (qr 2) (qg 2) (qw 2) (qV 2) ++ kCake kI kA (qo 3) (qa 3) (qv 3) (qr 3) (qg 3) (qw 3) (qV 3))))) : va_W)) : va_W)) (Wn := fun u => ((kRoot so co sh xo mo no djo ss sq) ++ ((kCake kI kA co ca cv cr cg cw cV) ++ (kHist kI kA kC sh qo qa qv qr (va_up qg 4 u.1) (va_up qw 4 u.2.1) (va_up qV 4 u.2.2))))) ⟨hx, hb, hml, hown, hts⟩ (c_X0_become l dC dI kI kA kC (qo 4) (qa 4) (qv 4) (qr 4) co ca cv cr _ (qg 4) (qw 4) (qV 4) cg cw cV _ hw) (cwV 1 hts gX6_record_X0_become rfl rfl rfl (by decide +kernel) ⟨Nat.le_of_ble_eq_true rfl, Nat.le_of_ble_eq_true rfl⟩) hK hP hD hS hA [37, 38, 39, 40, 41, 42, 43, 1, 2, 3, 4, 5, 6, 7] [0, 8, 9, 10, 11, 12, 13, 14, 15, 16, 17, 18, 19, 20, 21, 22, 23, 24, 25, 26, 27, 28, 29, 30, 31, 32, 33, 34, 35, 36] [0, 37, 38, 39, 40, 41, 42, 43, 1, 2, 3, 4, 5, 6, 7, 8, 9, 10, 11, 12, 13, 14, 15, 16, 17, 18, 19, 20, 21, 22, 23, 24, 25, 26, 27, 28, 29, 30, 31, 32, 33, 34, 35, 36] rfl rfl (by decide) (by decide) (by decide) (fun u => rfl) (by decide) rfl rfl rfl rfl hl.1 rfl (Nat.le_of_ble_eq_true rfl) dX6_record_25 ⟨Nat.zero_le _, Nat.zero_le _⟩ (fun u H locs hw hP hD hS => ?_)
      obtain ⟨qg_27, qw_28, qV_29⟩ := u
      have hP : va_P (dC, dI) vwCl ((kRoot so co sh xo mo no djo ss sq) ++ ((kCake kI kA co ca cv cr cg cw cV) ++ (kHist kI kA kC sh qo qa qv qr (va_up qg 4 qg_27) (va_up qw 4 qw_28) (va_up qV 4 qV_29)))) H := hP
      have hD : va_D A ((kRoot so co sh xo mo no djo ss sq) ++ ((kCake kI kA co ca cv cr cg cw cV) ++ (kHist kI kA kC sh qo qa qv qr (va_up qg 4 qg_27) (va_up qw 4 qw_28) (va_up qV 4 qV_29)))) := hD
      refine lv_aload_n hx hb dX6_record_28 rfl (lv_at hl 0 rfl) ?_
      refine lv_dup hx hb dX6_record_29 rfl ?_
      refine va_get (D := (dC, dI)) (ci := 6) (v := .int ss) (C := RX6) (T := TX6) (N := 8) hx hb hts in_X6_record_X6 hown hK hP 0 rfl rfl 2 (by decide) (hts (.fieldLink RX6 20 "CakeMarks" "states" "I") (List.mem_of_getElem? (i := 1) rfl)) (fun _ h9 => h9) rfl dX6_record_30 ?_
      refine lv_iconst (v := (1 : Int32)) hx hb dX6_record_33 (by decide) ?_
      refine lv_iadd hx hb dX6_record_34 ?_
      refine va_put (D := (dC, dI)) (ci := 6) (v := .int (ss + (1 : Int32))) (ty := .int) (C := RX6) (T := TX6) (N := 8) hx hb hts in_X6_record_X6 tyX6 tyX6_ok nmX6 hown hK hP hD hS 0 rfl rfl 2 (by decide) (hts (.fieldLink RX6 20 "CakeMarks" "states" "I") (List.mem_of_getElem? (i := 1) rfl)) (fun _ h9 => h9) rfl (by decide +kernel) rfl rfl (Nat.le_of_ble_eq_true rfl) dX6_record_35 (fun H locs hP hD hS => ?_)
      have hP : va_P (dC, dI) vwCl ((kRoot so co sh xo mo no djo (ss + (1 : Int32)) sq) ++ ((kCake kI kA co ca cv cr cg cw cV) ++ (kHist kI kA kC sh qo qa qv qr (va_up qg 4 qg_27) (va_up qw 4 qw_28) (va_up qV 4 qV_29)))) H := hP
      have hD : va_D A ((kRoot so co sh xo mo no djo (ss + (1 : Int32)) sq) ++ ((kCake kI kA co ca cv cr cg cw cV) ++ (kHist kI kA kC sh qo qa qv qr (va_up qg 4 qg_27) (va_up qw 4 qw_28) (va_up qV 4 qV_29)))) := hD
      refine lv_aload_n hx hb dX6_record_38 rfl (lv_at hl 0 rfl) ?_
      refine lv_iconst (v := (0 : Int32)) hx hb dX6_record_39 (by decide) ?_
      refine va_put (D := (dC, dI)) (ci := 6) (v := .int (0 : Int32)) (ty := .boolean) (C := RX6) (T := TX6) (N := 8) hx hb hts in_X6_record_X6 tyX6 tyX6_ok nmX6 hown hK hP hD hS 0 rfl rfl 7 (by decide) (hts (.fieldLink RX6 52 "CakeMarks" "searched" "Z") (List.mem_of_getElem? (i := 4) rfl)) (fun _ h9 => h9) rfl (by decide +kernel) rfl rfl (Nat.le_of_ble_eq_true rfl) dX6_record_40 (fun H locs hP hD hS => ?_)
      have hP : va_P (dC, dI) vwCl ((kRoot so co sh xo mo no djo (ss + (1 : Int32)) (0 : Int32)) ++ ((kCake kI kA co ca cv cr cg cw cV) ++ (kHist kI kA kC sh qo qa qv qr (va_up qg 4 qg_27) (va_up qw 4 qw_28) (va_up qV 4 qV_29)))) H := hP
      have hD : va_D A ((kRoot so co sh xo mo no djo (ss + (1 : Int32)) (0 : Int32)) ++ ((kCake kI kA co ca cv cr cg cw cV) ++ (kHist kI kA kC sh qo qa qv qr (va_up qg 4 qg_27) (va_up qw 4 qw_28) (va_up qV 4 qV_29)))) := hD
      exact hret 43 ((ss + (1 : Int32)), (0 : Int32), (va_up qg 4 qg_27), (va_up qw 4 qw_28), (va_up qV 4 qV_29), qo, qa, qv, qr) _ _ _ hw hP hD hS dX6_record_43
  unfold Wp_X6_record at hw
  refine lv_aload_n hx hb dX6_record_0 rfl (lv_at hl 0 rfl) ?_
  refine va_get (D := (dC, dI)) (ci := 6) (v := .int ss) (C := RX6) (T := TX6) (N := 8) hx hb hts in_X6_record_X6 hown hK hP 0 rfl rfl 2 (by decide) (hts (.fieldLink RX6 20 "CakeMarks" "states" "I") (List.mem_of_getElem? (i := 1) rfl)) (fun _ h9 => h9) rfl dX6_record_1 ?_
  refine lv_iconst (v := (5 : Int32)) hx hb dX6_record_4 (by decide) ?_
  refine lv_icmp_lt (tgt := 12) hx hb dX6_record_5 (by decide) (fun c_1 => ?_) (fun c_1 => ?_)
  · have hw := hw.1 c_1
    exact k_12  ss sq qg qw qV hw qo qa qv qr ls _ _ (lv_sub hl [0] rfl) hP hD hS
  · have hw := hw.2 c_1
    refine lv_aload_n hx hb dX6_record_8 rfl (lv_at hl 0 rfl) ?_
    refine zcallV (ci := 6) (q0 := 0) (As := []) (rest := []) (wr := (kCake kI kA co ca cv cr cg cw cV)) (Wn := fun u => ((kRoot so co sh xo mo no djo u.1 sq) ++ ((kCake kI kA co ca cv cr cg cw cV) ++ (kHist kI kA kC sh u.2.2.2.2.1 u.2.2.2.2.2.1 u.2.2.2.2.2.2.1 u.2.2.2.2.2.2.2 u.2.1 u.2.2.1 u.2.2.2.1)))) ⟨hx, hb, hml, hown, hts⟩ (c_X6_dropOldest l dC dI kI kA kC so co sh xo mo no djo qo qa qv qr _ ss sq qg qw qV _ hw) (cwV 0 hts gX6_record_X6_dropOldest rfl rfl rfl (by decide +kernel) ⟨Nat.le_of_ble_eq_true rfl, Nat.le_of_ble_eq_true rfl⟩) hK hP hD hS hA [0, 8, 9, 10, 11, 12, 13, 14, 15, 16, 17, 18, 19, 20, 21, 22, 23, 24, 25, 26, 27, 28, 29, 30, 31, 32, 33, 34, 35, 36, 37, 38, 39, 40, 41, 42, 43] [1, 2, 3, 4, 5, 6, 7] [7, 0, 1, 2, 3, 4, 5, 6, 8, 9, 10, 11, 12, 13, 14, 15, 16, 17, 18, 19, 20, 21, 22, 23, 24, 25, 26, 27, 28, 29, 30, 31, 32, 33, 34, 35, 36, 37, 38, 39, 40, 41, 42, 43] rfl rfl (by decide) (by decide) (by decide) (fun u => rfl) (by decide) rfl rfl rfl rfl hl.1 rfl (Nat.le_of_ble_eq_true rfl) dX6_record_9 ⟨Nat.zero_le _, Nat.zero_le _⟩ (fun u H locs hw hP hD hS => ?_)
    obtain ⟨ss_2, qg_3, qw_4, qV_5, qo_6, qa_7, qv_8, qr_9⟩ := u
    have hP : va_P (dC, dI) vwCl ((kRoot so co sh xo mo no djo ss_2 sq) ++ ((kCake kI kA co ca cv cr cg cw cV) ++ (kHist kI kA kC sh qo_6 qa_7 qv_8 qr_9 qg_3 qw_4 qV_5))) H := hP
    have hD : va_D A ((kRoot so co sh xo mo no djo ss_2 sq) ++ ((kCake kI kA co ca cv cr cg cw cV) ++ (kHist kI kA kC sh qo_6 qa_7 qv_8 qr_9 qg_3 qw_4 qV_5))) := hD
    exact k_12  ss_2 sq qg_3 qw_4 qV_5 hw qo_6 qa_7 qv_8 qr_9 ls _ _ (lv_sub hl [0] rfl) hP hD hS
-- CakeMarks.addGuest()I
def Wp_X6_addGuest (ss : Int32) (sq : Int32) (cg : Int32) (cw : Nat → Int32) (cV : Nat → Nat → Int32) (qg : Nat → Int32) (qw : Nat → Nat → Int32) (qV : Nat → Nat → Nat → Int32) (Z : Int32 → Int32 → Int32 → Int32 → (Nat → Nat → Int32) → (Nat → Int32) → (Nat → Nat → Int32) → (Nat → Nat → Nat → Int32) → Prop) : Prop := ((cg < (4 : Int32) → (Wp_X6_record ss sq cg cw cV qg qw qV (fun ss_2 sq_3 qg_4 qw_5 qV_6 => (Wp_X0_seatGuest cg cV (fun r_13 cg_11 cV_12 => (Z r_13 ss_2 sq_3 cg_11 cV_12 qg_4 qw_5 qV_6)))))) ∧ (¬ cg < (4 : Int32) → (Z (-3 : Int32) ss sq cg cV qg qw qV)))
theorem in_X6_addGuest_X0 : ∀ w ∈ u_ws RX0 TX0 3, w ∈ wsX6_addGuest := fun w h => List.mem_cons_of_mem _ (List.mem_append_right _ h)
theorem in_X6_addGuest_X6 : ∀ w ∈ u_ws RX6 TX6 8, w ∈ wsX6_addGuest := fun w h => List.mem_cons_of_mem _ (List.mem_append_left _ (List.mem_append_right _ h))
set_option maxHeartbeats 20000000 in
set_option maxRecDepth 100000 in
theorem c_X6_addGuest (l : Launch) (dC : Nat → ClassId) (dI : Nat → Nat → Nat) (kI kA kC : ClassId) (so : Nat) (co : Nat) (sh : Nat) (xo : Nat) (mo : Nat) (no : Nat) (djo : Nat) (ca : Nat) (cv : Nat) (cr : Nat → Nat) (qo : Nat → Nat) (qa : Nat → Nat) (qv : Nat → Nat) (qr : Nat → Nat → Nat) (sz : Nat) (ss : Int32) (sq : Int32) (cg : Int32) (cw : Nat → Int32) (cV : Nat → Nat → Int32) (qg : Nat → Int32) (qw : Nat → Nat → Int32) (qV : Nat → Nat → Nat → Int32) (Z : Int32 → Int32 → Int32 → Int32 → (Nat → Nat → Int32) → (Nat → Int32) → (Nat → Nat → Int32) → (Nat → Nat → Nat → Int32) → Prop) (hw : Wp_X6_addGuest ss sq cg cw cV qg qw qV Z) : zI l yX6_addGuest wsX6_addGuest ({ frames := 4, cells := 0, slots := 0, locals := 94 }) dC dI kI kA kC sz 0 0 [.ref so] ((kRoot so co sh xo mo no djo ss sq) ++ ((kCake kI kA co ca cv cr cg cw cV) ++ (kHist kI kA kC sh qo qa qv qr qg qw qV))) (fun (r : Int32) (u : Int32 × Int32 × Int32 × (Nat → Nat → Int32) × (Nat → Int32) × (Nat → Nat → Int32) × (Nat → Nat → Nat → Int32) × (Nat → Nat) × (Nat → Nat) × (Nat → Nat) × (Nat → Nat → Nat)) => Z r u.1 u.2.1 u.2.2.1 u.2.2.2.1 u.2.2.2.2.1 u.2.2.2.2.2.1 u.2.2.2.2.2.2.1) (fun (u : Int32 × Int32 × Int32 × (Nat → Nat → Int32) × (Nat → Int32) × (Nat → Nat → Int32) × (Nat → Nat → Nat → Int32) × (Nat → Nat) × (Nat → Nat) × (Nat → Nat) × (Nat → Nat → Nat)) => ((kRoot so co sh xo mo no djo u.1 u.2.1) ++ ((kCake kI kA co ca cv cr u.2.2.1 cw u.2.2.2.1) ++ (kHist kI kA kC sh u.2.2.2.2.2.2.2.1 u.2.2.2.2.2.2.2.2.1 u.2.2.2.2.2.2.2.2.2.1 u.2.2.2.2.2.2.2.2.2.2 u.2.2.2.2.1 u.2.2.2.2.2.1 u.2.2.2.2.2.2.1)))) := by
  refine zI.of (cc := cX6_addGuest) (maxL := 1) (ty := .int) (by decide) rfl (Nat.le_of_ble_eq_true rfl) (Or.inl rfl) ?_
  intro p e s m args below meth c A Q C0 hret ls hl
  obtain ⟨hx, hb, hr, hml, hts, hown, hin, hP, hK, hD, hA, hS⟩ := C0
  have hown : s.vm.findClass RX6 = some m.cls := hown
  have hl : lv_has ls 1 [(0, .ref so)] := hl
  unfold Wp_X6_addGuest at hw
  refine lv_aload_n hx hb dX6_addGuest_0 rfl (lv_at hl 0 rfl) ?_
  refine va_get (D := (dC, dI)) (ci := 6) (v := .ref co) (C := RX6) (T := TX6) (N := 8) hx hb hts in_X6_addGuest_X6 hown hK hP 0 rfl rfl 0 (by decide) (hts (.fieldLink RX6 10 "CakeMarks" "cake" "LCakeMarks$Cake;") (List.mem_of_getElem? (i := 1) rfl)) (fun _ h9 => h9) rfl dX6_addGuest_1 ?_
  refine va_get (D := (dC, dI)) (ci := 0) (v := .int cg) (C := RX0) (T := TX0) (N := 3) hx hb hts in_X6_addGuest_X0 hown hK hP 1 rfl rfl 0 (by decide) (hts (.fieldLink RX6 56 "CakeMarks$Cake" "guests" "I") (List.mem_of_getElem? (i := 2) rfl)) (fun _ h9 => h9) rfl dX6_addGuest_4 ?_
  refine lv_iconst (v := (4 : Int32)) hx hb dX6_addGuest_7 (by decide) ?_
  refine lv_icmp_lt (tgt := 14) hx hb dX6_addGuest_8 (by decide) (fun c_1 => ?_) (fun c_1 => ?_)
  · have hw := hw.1 c_1
    refine lv_aload_n hx hb dX6_addGuest_14 rfl (lv_at hl 0 rfl) ?_
    refine zcallV (ci := 6) (q0 := 0) (As := []) (rest := []) (wr := ([] : va_W)) (Wn := fun u => ((kRoot so co sh xo mo no djo u.1 u.2.1) ++ ((kCake kI kA co ca cv cr cg cw cV) ++ (kHist kI kA kC sh u.2.2.2.2.2.1 u.2.2.2.2.2.2.1 u.2.2.2.2.2.2.2.1 u.2.2.2.2.2.2.2.2 u.2.2.1 u.2.2.2.1 u.2.2.2.2.1)))) ⟨hx, hb, hml, hown, hts⟩ (c_X6_record l dC dI kI kA kC so co sh xo mo no djo ca cv cr qo qa qv qr _ ss sq cg cw cV qg qw qV _ hw) (cwV 0 hts gX6_addGuest_X6_record rfl rfl rfl (by decide +kernel) ⟨Nat.le_of_ble_eq_true rfl, Nat.le_of_ble_eq_true rfl⟩) hK hP hD hS hA [0, 1, 2, 3, 4, 5, 6, 7, 8, 9, 10, 11, 12, 13, 14, 15, 16, 17, 18, 19, 20, 21, 22, 23, 24, 25, 26, 27, 28, 29, 30, 31, 32, 33, 34, 35, 36, 37, 38, 39, 40, 41, 42, 43] [] [0, 1, 2, 3, 4, 5, 6, 7, 8, 9, 10, 11, 12, 13, 14, 15, 16, 17, 18, 19, 20, 21, 22, 23, 24, 25, 26, 27, 28, 29, 30, 31, 32, 33, 34, 35, 36, 37, 38, 39, 40, 41, 42, 43] rfl rfl (by decide) (by decide) (by decide) (fun u => rfl) (by decide) rfl rfl rfl rfl hl.1 rfl (Nat.le_of_ble_eq_true rfl) dX6_addGuest_15 ⟨Nat.zero_le _, Nat.zero_le _⟩ (fun u H locs hw hP hD hS => ?_)
    obtain ⟨ss_2, sq_3, qg_4, qw_5, qV_6, qo_7, qa_8, qv_9, qr_10⟩ := u
    have hP : va_P (dC, dI) vwCl ((kRoot so co sh xo mo no djo ss_2 sq_3) ++ ((kCake kI kA co ca cv cr cg cw cV) ++ (kHist kI kA kC sh qo_7 qa_8 qv_9 qr_10 qg_4 qw_5 qV_6))) H := hP
    have hD : va_D A ((kRoot so co sh xo mo no djo ss_2 sq_3) ++ ((kCake kI kA co ca cv cr cg cw cV) ++ (kHist kI kA kC sh qo_7 qa_8 qv_9 qr_10 qg_4 qw_5 qV_6))) := hD
    refine lv_aload_n hx hb dX6_addGuest_18 rfl (lv_at hl 0 rfl) ?_
    refine va_get (D := (dC, dI)) (ci := 6) (v := .ref co) (C := RX6) (T := TX6) (N := 8) hx hb hts in_X6_addGuest_X6 hown hK hP 0 rfl rfl 0 (by decide) (hts (.fieldLink RX6 10 "CakeMarks" "cake" "LCakeMarks$Cake;") (List.mem_of_getElem? (i := 1) rfl)) (fun _ h9 => h9) rfl dX6_addGuest_19 ?_
    refine zcallI (ci := 0) (q0 := 0) (As := []) (rest := []) (wr := ((kRoot so co sh xo mo no djo ss_2 sq_3) ++ (kHist kI kA kC sh qo_7 qa_8 qv_9 qr_10 qg_4 qw_5 qV_6))) (Wn := fun u => ((kRoot so co sh xo mo no djo ss_2 sq_3) ++ ((kCake kI kA co ca cv cr u.1 cw u.2) ++ (kHist kI kA kC sh qo_7 qa_8 qv_9 qr_10 qg_4 qw_5 qV_6)))) ⟨hx, hb, hml, hown, hts⟩ (c_X0_seatGuest l dC dI kI kA kC co ca cv cr _ cg cw cV _ hw) (cwV 0 hts gX6_addGuest_X0_seatGuest rfl rfl rfl (by decide +kernel) ⟨Nat.le_of_ble_eq_true rfl, Nat.le_of_ble_eq_true rfl⟩) hK hP hD hS hA [1, 2, 3, 4, 5, 6, 7] [0, 8, 9, 10, 11, 12, 13, 14, 15, 16, 17, 18, 19, 20, 21, 22, 23, 24, 25, 26, 27, 28, 29, 30, 31, 32, 33, 34, 35, 36, 37, 38, 39, 40, 41, 42, 43] [0, 37, 38, 39, 40, 41, 42, 43, 1, 2, 3, 4, 5, 6, 7, 8, 9, 10, 11, 12, 13, 14, 15, 16, 17, 18, 19, 20, 21, 22, 23, 24, 25, 26, 27, 28, 29, 30, 31, 32, 33, 34, 35, 36] rfl rfl (by decide) (by decide) (by decide) (fun u => rfl) (by decide) rfl rfl rfl rfl hl.1 rfl (Nat.le_of_ble_eq_true rfl) dX6_addGuest_22 ⟨Nat.zero_le _, Nat.zero_le _⟩ (fun r_13 u H locs hw hP hD hS => ?_)
    obtain ⟨cg_11, cV_12⟩ := u
    have hP : va_P (dC, dI) vwCl ((kRoot so co sh xo mo no djo ss_2 sq_3) ++ ((kCake kI kA co ca cv cr cg_11 cw cV_12) ++ (kHist kI kA kC sh qo_7 qa_8 qv_9 qr_10 qg_4 qw_5 qV_6))) H := hP
    have hD : va_D A ((kRoot so co sh xo mo no djo ss_2 sq_3) ++ ((kCake kI kA co ca cv cr cg_11 cw cV_12) ++ (kHist kI kA kC sh qo_7 qa_8 qv_9 qr_10 qg_4 qw_5 qV_6))) := hD
    exact hret 25 r_13 (ss_2, sq_3, cg_11, cV_12, qg_4, qw_5, qV_6, qo_7, qa_8, qv_9, qr_10) _ _ _ (fun h => absurd h (by decide)) hw hP hD hS dX6_addGuest_25
  · have hw := hw.2 c_1
    refine lv_bipush (v := (-3 : Int32)) hx hb dX6_addGuest_11 (by decide) ?_
    exact hret 13 (-3 : Int32) (ss, sq, cg, cV, qg, qw, qV, qo, qa, qv, qr) _ _ _ (fun h => absurd h (by decide)) hw hP hD hS dX6_addGuest_13
-- CakeMarks.isSpan(II)Z
def Wp_X6_isSpan (a0 : Int32) (a1 : Int32) (Z : Int32 → Prop) : Prop := ((a0 < (0 : Int32) → (Z (0 : Int32))) ∧ (¬ a0 < (0 : Int32) → ((a1 < a0 → (Z (0 : Int32))) ∧ (¬ a1 < a0 → (((24 : Int32) ≤ a1 → (Z (0 : Int32))) ∧ (¬ (24 : Int32) ≤ a1 → (Z (1 : Int32))))))))
set_option maxHeartbeats 20000000 in
set_option maxRecDepth 100000 in
theorem c_X6_isSpan (l : Launch) (dC : Nat → ClassId) (dI : Nat → Nat → Nat) (kI kA kC : ClassId) (sz : Nat) (a0 : Int32) (a1 : Int32) (Z : Int32 → Prop) (hw : Wp_X6_isSpan a0 a1 Z) : zI l yX6_isSpan wsX6_isSpan ({ frames := 0, cells := 0, slots := 0, locals := 0 }) dC dI kI kA kC sz 0 0 [.int a0, .int a1] ([] : va_W) (fun (r : Int32) (u : Unit) => Z r ) (fun (u : Unit) => ([] : va_W)) := by
  refine zI.of (cc := cX6_isSpan) (maxL := 2) (ty := .boolean) (by decide) rfl (Nat.le_of_ble_eq_true rfl) (Or.inr rfl) ?_
  intro p e s m args below meth c A Q C0 hret ls hl
  obtain ⟨hx, hb, hr, hml, hts, hown, hin, hP, hK, hD, hA, hS⟩ := C0
  have hown : s.vm.findClass RX6 = some m.cls := hown
  have hl : lv_has ls 2 [(0, .int a0), (1, .int a1)] := hl
  unfold Wp_X6_isSpan at hw
  refine lv_iload_n hx hb dX6_isSpan_0 rfl (lv_at hl 0 rfl) ?_
  refine lv_if_lt (tgt := 19) hx hb dX6_isSpan_1 (by decide) (fun c_1 => ?_) (fun c_1 => ?_)
  · have hw := hw.1 c_1
    refine lv_iconst (v := (0 : Int32)) hx hb dX6_isSpan_19 (by decide) ?_
    exact hret 20 (0 : Int32) () _ _ _ (fun _ => rfl) hw hP hD hS dX6_isSpan_20
  · have hw := hw.2 c_1
    refine lv_iload_n hx hb dX6_isSpan_4 rfl (lv_at hl 0 rfl) ?_
    refine lv_iload_n hx hb dX6_isSpan_5 rfl (lv_at hl 1 rfl) ?_
    refine lv_icmp_gt (tgt := 19) hx hb dX6_isSpan_6 (by decide) (fun c_2 => ?_) (fun c_2 => ?_)
    · have hw := hw.1 c_2
      refine lv_iconst (v := (0 : Int32)) hx hb dX6_isSpan_19 (by decide) ?_
      exact hret 20 (0 : Int32) () _ _ _ (fun _ => rfl) hw hP hD hS dX6_isSpan_20
    · have hw := hw.2 c_2
      refine lv_iload_n hx hb dX6_isSpan_9 rfl (lv_at hl 1 rfl) ?_
      refine lv_bipush (v := (24 : Int32)) hx hb dX6_isSpan_10 (by decide) ?_
      refine lv_icmp_ge (tgt := 19) hx hb dX6_isSpan_12 (by decide) (fun c_3 => ?_) (fun c_3 => ?_)
      · have hw := hw.1 c_3
        refine lv_iconst (v := (0 : Int32)) hx hb dX6_isSpan_19 (by decide) ?_
        exact hret 20 (0 : Int32) () _ _ _ (fun _ => rfl) hw hP hD hS dX6_isSpan_20
      · have hw := hw.2 c_3
        refine lv_iconst (v := (1 : Int32)) hx hb dX6_isSpan_15 (by decide) ?_
        refine lv_goto (tgt := 20) hx hb dX6_isSpan_16 (by decide) ?_
        exact hret 20 (1 : Int32) () _ _ _ (fun _ => rfl) hw hP hD hS dX6_isSpan_20
-- CakeMarks.setValue(IIII)I
def Wp_X6_setValue (ss : Int32) (sq : Int32) (cg : Int32) (cw : Nat → Int32) (cV : Nat → Nat → Int32) (qg : Nat → Int32) (qw : Nat → Nat → Int32) (qV : Nat → Nat → Nat → Int32) (a1 : Int32) (a2 : Int32) (a3 : Int32) (a4 : Int32) (Z : Int32 → Int32 → Int32 → (Nat → Nat → Int32) → (Nat → Int32) → (Nat → Nat → Int32) → (Nat → Nat → Nat → Int32) → Prop) : Prop := (Wp_X0_isGuest cg a1 (fun r_1 => ((r_1 = (0 : Int32) → (Z (-1 : Int32) ss sq cV qg qw qV)) ∧ (¬ r_1 = (0 : Int32) → (Wp_X6_isSpan a2 a3 (fun r_3 => ((r_3 = (0 : Int32) → (Z (-1 : Int32) ss sq cV qg qw qV)) ∧ (¬ r_3 = (0 : Int32) → ((a4 < (0 : Int32) → (Z (-1 : Int32) ss sq cV qg qw qV)) ∧ (¬ a4 < (0 : Int32) → ((a4 ≤ (9 : Int32) → (Wp_X6_record ss sq cg cw cV qg qw qV (fun ss_7 sq_8 qg_9 qw_10 qV_11 => (Wp_X0_setValues cV a1 a2 a3 a4 (fun cV_16 => (Wp_X0_total cV_16 a1 (fun r_17 => (Z r_17 ss_7 sq_8 cV_16 qg_9 qw_10 qV_11)))))))) ∧ (¬ a4 ≤ (9 : Int32) → (Z (-1 : Int32) ss sq cV qg qw qV)))))))))))))
theorem in_X6_setValue_X6 : ∀ w ∈ u_ws RX6 TX6 8, w ∈ wsX6_setValue := fun w h => List.mem_cons_of_mem _ (List.mem_append_left _ (List.mem_append_right _ h))
set_option maxHeartbeats 20000000 in
set_option maxRecDepth 100000 in
theorem c_X6_setValue (l : Launch) (dC : Nat → ClassId) (dI : Nat → Nat → Nat) (kI kA kC : ClassId) (so : Nat) (co : Nat) (sh : Nat) (xo : Nat) (mo : Nat) (no : Nat) (djo : Nat) (ca : Nat) (cv : Nat) (cr : Nat → Nat) (qo : Nat → Nat) (qa : Nat → Nat) (qv : Nat → Nat) (qr : Nat → Nat → Nat) (sz : Nat) (ss : Int32) (sq : Int32) (cg : Int32) (cw : Nat → Int32) (cV : Nat → Nat → Int32) (qg : Nat → Int32) (qw : Nat → Nat → Int32) (qV : Nat → Nat → Nat → Int32) (a1 : Int32) (a2 : Int32) (a3 : Int32) (a4 : Int32) (Z : Int32 → Int32 → Int32 → (Nat → Nat → Int32) → (Nat → Int32) → (Nat → Nat → Int32) → (Nat → Nat → Nat → Int32) → Prop) (hw : Wp_X6_setValue ss sq cg cw cV qg qw qV a1 a2 a3 a4 Z) : zI l yX6_setValue wsX6_setValue ({ frames := 4, cells := 0, slots := 0, locals := 94 }) dC dI kI kA kC sz 0 0 [.ref so, .int a1, .int a2, .int a3, .int a4] ((kRoot so co sh xo mo no djo ss sq) ++ ((kCake kI kA co ca cv cr cg cw cV) ++ (kHist kI kA kC sh qo qa qv qr qg qw qV))) (fun (r : Int32) (u : Int32 × Int32 × (Nat → Nat → Int32) × (Nat → Int32) × (Nat → Nat → Int32) × (Nat → Nat → Nat → Int32) × (Nat → Nat) × (Nat → Nat) × (Nat → Nat) × (Nat → Nat → Nat)) => Z r u.1 u.2.1 u.2.2.1 u.2.2.2.1 u.2.2.2.2.1 u.2.2.2.2.2.1) (fun (u : Int32 × Int32 × (Nat → Nat → Int32) × (Nat → Int32) × (Nat → Nat → Int32) × (Nat → Nat → Nat → Int32) × (Nat → Nat) × (Nat → Nat) × (Nat → Nat) × (Nat → Nat → Nat)) => ((kRoot so co sh xo mo no djo u.1 u.2.1) ++ ((kCake kI kA co ca cv cr cg cw u.2.2.1) ++ (kHist kI kA kC sh u.2.2.2.2.2.2.1 u.2.2.2.2.2.2.2.1 u.2.2.2.2.2.2.2.2.1 u.2.2.2.2.2.2.2.2.2 u.2.2.2.1 u.2.2.2.2.1 u.2.2.2.2.2.1)))) := by
  refine zI.of (cc := cX6_setValue) (maxL := 5) (ty := .int) (by decide) rfl (Nat.le_of_ble_eq_true rfl) (Or.inl rfl) ?_
  intro p e s m args below meth c A Q C0 hret ls hl
  obtain ⟨hx, hb, hr, hml, hts, hown, hin, hP, hK, hD, hA, hS⟩ := C0
  have hown : s.vm.findClass RX6 = some m.cls := hown
  have hl : lv_has ls 5 [(0, .ref so), (1, .int a1), (2, .int a2), (3, .int a3), (4, .int a4)] := hl
  unfold Wp_X6_setValue at hw
  refine lv_aload_n hx hb dX6_setValue_0 rfl (lv_at hl 0 rfl) ?_
  refine va_get (D := (dC, dI)) (ci := 6) (v := .ref co) (C := RX6) (T := TX6) (N := 8) hx hb hts in_X6_setValue_X6 hown hK hP 0 rfl rfl 0 (by decide) (hts (.fieldLink RX6 10 "CakeMarks" "cake" "LCakeMarks$Cake;") (List.mem_of_getElem? (i := 1) rfl)) (fun _ h9 => h9) rfl dX6_setValue_1 ?_
  refine lv_iload_n hx hb dX6_setValue_4 rfl (lv_at hl 1 rfl) ?_
  refine zcallI (ci := 0) (q0 := 0) (As := [.int a1]) (rest := []) (wr := ((kRoot so co sh xo mo no djo ss sq) ++ (kHist kI kA kC sh qo qa qv qr qg qw qV))) (Wn := fun u => ((kRoot so co sh xo mo no djo ss sq) ++ ((kCake kI kA co ca cv cr cg cw cV) ++ (kHist kI kA kC sh qo qa qv qr qg qw qV)))) ⟨hx, hb, hml, hown, hts⟩ (c_X0_isGuest l dC dI kI kA kC co ca cv cr _ cg cw cV a1 _ hw) (cwV 1 hts gX6_setValue_X0_isGuest rfl rfl rfl (by decide +kernel) ⟨Nat.le_of_ble_eq_true rfl, Nat.le_of_ble_eq_true rfl⟩) hK hP hD hS hA [1, 2, 3, 4, 5, 6, 7] [0, 8, 9, 10, 11, 12, 13, 14, 15, 16, 17, 18, 19, 20, 21, 22, 23, 24, 25, 26, 27, 28, 29, 30, 31, 32, 33, 34, 35, 36, 37, 38, 39, 40, 41, 42, 43] [0, 37, 38, 39, 40, 41, 42, 43, 1, 2, 3, 4, 5, 6, 7, 8, 9, 10, 11, 12, 13, 14, 15, 16, 17, 18, 19, 20, 21, 22, 23, 24, 25, 26, 27, 28, 29, 30, 31, 32, 33, 34, 35, 36] rfl rfl (by decide) (by decide) (by decide) (fun u => rfl) (by decide) rfl rfl rfl rfl hl.1 rfl (Nat.le_of_ble_eq_true rfl) dX6_setValue_5 ⟨Nat.zero_le _, Nat.zero_le _⟩ (fun r_1 u H locs hw hP hD hS => ?_)
  have hP : va_P (dC, dI) vwCl ((kRoot so co sh xo mo no djo ss sq) ++ ((kCake kI kA co ca cv cr cg cw cV) ++ (kHist kI kA kC sh qo qa qv qr qg qw qV))) H := hP
  have hD : va_D A ((kRoot so co sh xo mo no djo ss sq) ++ ((kCake kI kA co ca cv cr cg cw cV) ++ (kHist kI kA kC sh qo qa qv qr qg qw qV))) := hD
  refine lv_if_eq (tgt := 31) hx hb dX6_setValue_8 (by decide) (fun c_2 => ?_) (fun c_2 => ?_)
  · have hw := hw.1 c_2
    refine lv_iconst (v := (-1 : Int32)) hx hb dX6_setValue_31 (by decide) ?_
    exact hret 32 (-1 : Int32) (ss, sq, cV, qg, qw, qV, qo, qa, qv, qr) _ _ _ (fun h => absurd h (by decide)) hw hP hD hS dX6_setValue_32
  · have hw := hw.2 c_2
    refine lv_iload_n hx hb dX6_setValue_11 rfl (lv_at hl 2 rfl) ?_
    refine lv_iload_n hx hb dX6_setValue_12 rfl (lv_at hl 3 rfl) ?_
    refine zcallS (As := [.int a2, .int a3]) (rest := []) (wr := ((kRoot so co sh xo mo no djo ss sq) ++ ((kCake kI kA co ca cv cr cg cw cV) ++ (kHist kI kA kC sh qo qa qv qr qg qw qV)))) (Wn := fun u => ((kRoot so co sh xo mo no djo ss sq) ++ ((kCake kI kA co ca cv cr cg cw cV) ++ (kHist kI kA kC sh qo qa qv qr qg qw qV)))) ⟨hx, hb, hml, hown, hts⟩ (c_X6_isSpan l dC dI kI kA kC _ a2 a3 _ hw) (va_cwS 2 hts gX6_setValue_X6_isSpan rfl rfl rfl (by decide +kernel) ⟨Nat.le_of_ble_eq_true rfl, Nat.le_of_ble_eq_true rfl⟩) hK hP hD hS hA [] [0, 1, 2, 3, 4, 5, 6, 7, 8, 9, 10, 11, 12, 13, 14, 15, 16, 17, 18, 19, 20, 21, 22, 23, 24, 25, 26, 27, 28, 29, 30, 31, 32, 33, 34, 35, 36, 37, 38, 39, 40, 41, 42, 43] [0, 1, 2, 3, 4, 5, 6, 7, 8, 9, 10, 11, 12, 13, 14, 15, 16, 17, 18, 19, 20, 21, 22, 23, 24, 25, 26, 27, 28, 29, 30, 31, 32, 33, 34, 35, 36, 37, 38, 39, 40, 41, 42, 43] rfl rfl (by decide) (by decide) (by decide) (fun u => rfl) (by decide) rfl hl.1 rfl (Nat.le_of_ble_eq_true rfl) dX6_setValue_13 ⟨Nat.zero_le _, Nat.zero_le _⟩ (fun r_3 u H locs hw hP hD hS => ?_)
    have hP : va_P (dC, dI) vwCl ((kRoot so co sh xo mo no djo ss sq) ++ ((kCake kI kA co ca cv cr cg cw cV) ++ (kHist kI kA kC sh qo qa qv qr qg qw qV))) H := hP
    have hD : va_D A ((kRoot so co sh xo mo no djo ss sq) ++ ((kCake kI kA co ca cv cr cg cw cV) ++ (kHist kI kA kC sh qo qa qv qr qg qw qV))) := hD
    refine lv_if_eq (tgt := 31) hx hb dX6_setValue_16 (by decide) (fun c_4 => ?_) (fun c_4 => ?_)
    · have hw := hw.1 c_4
      refine lv_iconst (v := (-1 : Int32)) hx hb dX6_setValue_31 (by decide) ?_
      exact hret 32 (-1 : Int32) (ss, sq, cV, qg, qw, qV, qo, qa, qv, qr) _ _ _ (fun h => absurd h (by decide)) hw hP hD hS dX6_setValue_32
    · have hw := hw.2 c_4
      refine lv_iload hx hb dX6_setValue_19 (lv_at hl 4 rfl) ?_
      refine lv_if_lt (tgt := 31) hx hb dX6_setValue_21 (by decide) (fun c_5 => ?_) (fun c_5 => ?_)
      · have hw := hw.1 c_5
        refine lv_iconst (v := (-1 : Int32)) hx hb dX6_setValue_31 (by decide) ?_
        exact hret 32 (-1 : Int32) (ss, sq, cV, qg, qw, qV, qo, qa, qv, qr) _ _ _ (fun h => absurd h (by decide)) hw hP hD hS dX6_setValue_32
      · have hw := hw.2 c_5
        refine lv_iload hx hb dX6_setValue_24 (lv_at hl 4 rfl) ?_
        refine lv_bipush (v := (9 : Int32)) hx hb dX6_setValue_26 (by decide) ?_
        refine lv_icmp_le (tgt := 33) hx hb dX6_setValue_28 (by decide) (fun c_6 => ?_) (fun c_6 => ?_)
        · have hw := hw.1 c_6
          refine lv_aload_n hx hb dX6_setValue_33 rfl (lv_at hl 0 rfl) ?_
          refine zcallV (ci := 6) (q0 := 0) (As := []) (rest := []) (wr := ([] : va_W)) (Wn := fun u => ((kRoot so co sh xo mo no djo u.1 u.2.1) ++ ((kCake kI kA co ca cv cr cg cw cV) ++ (kHist kI kA kC sh u.2.2.2.2.2.1 u.2.2.2.2.2.2.1 u.2.2.2.2.2.2.2.1 u.2.2.2.2.2.2.2.2 u.2.2.1 u.2.2.2.1 u.2.2.2.2.1)))) ⟨hx, hb, hml, hown, hts⟩ (c_X6_record l dC dI kI kA kC so co sh xo mo no djo ca cv cr qo qa qv qr _ ss sq cg cw cV qg qw qV _ hw) (cwV 0 hts gX6_setValue_X6_record rfl rfl rfl (by decide +kernel) ⟨Nat.le_of_ble_eq_true rfl, Nat.le_of_ble_eq_true rfl⟩) hK hP hD hS hA [0, 1, 2, 3, 4, 5, 6, 7, 8, 9, 10, 11, 12, 13, 14, 15, 16, 17, 18, 19, 20, 21, 22, 23, 24, 25, 26, 27, 28, 29, 30, 31, 32, 33, 34, 35, 36, 37, 38, 39, 40, 41, 42, 43] [] [0, 1, 2, 3, 4, 5, 6, 7, 8, 9, 10, 11, 12, 13, 14, 15, 16, 17, 18, 19, 20, 21, 22, 23, 24, 25, 26, 27, 28, 29, 30, 31, 32, 33, 34, 35, 36, 37, 38, 39, 40, 41, 42, 43] rfl rfl (by decide) (by decide) (by decide) (fun u => rfl) (by decide) rfl rfl rfl rfl hl.1 rfl (Nat.le_of_ble_eq_true rfl) dX6_setValue_34 ⟨Nat.zero_le _, Nat.zero_le _⟩ (fun u H locs hw hP hD hS => ?_)
          obtain ⟨ss_7, sq_8, qg_9, qw_10, qV_11, qo_12, qa_13, qv_14, qr_15⟩ := u
          have hP : va_P (dC, dI) vwCl ((kRoot so co sh xo mo no djo ss_7 sq_8) ++ ((kCake kI kA co ca cv cr cg cw cV) ++ (kHist kI kA kC sh qo_12 qa_13 qv_14 qr_15 qg_9 qw_10 qV_11))) H := hP
          have hD : va_D A ((kRoot so co sh xo mo no djo ss_7 sq_8) ++ ((kCake kI kA co ca cv cr cg cw cV) ++ (kHist kI kA kC sh qo_12 qa_13 qv_14 qr_15 qg_9 qw_10 qV_11))) := hD
          refine lv_aload_n hx hb dX6_setValue_37 rfl (lv_at hl 0 rfl) ?_
          refine va_get (D := (dC, dI)) (ci := 6) (v := .ref co) (C := RX6) (T := TX6) (N := 8) hx hb hts in_X6_setValue_X6 hown hK hP 0 rfl rfl 0 (by decide) (hts (.fieldLink RX6 10 "CakeMarks" "cake" "LCakeMarks$Cake;") (List.mem_of_getElem? (i := 1) rfl)) (fun _ h9 => h9) rfl dX6_setValue_38 ?_
          refine lv_iload_n hx hb dX6_setValue_41 rfl (lv_at hl 1 rfl) ?_
          refine lv_iload_n hx hb dX6_setValue_42 rfl (lv_at hl 2 rfl) ?_
          refine lv_iload_n hx hb dX6_setValue_43 rfl (lv_at hl 3 rfl) ?_
          refine lv_iload hx hb dX6_setValue_44 (lv_at hl 4 rfl) ?_
          refine zcallV (ci := 0) (q0 := 0) (As := [.int a1, .int a2, .int a3, .int a4]) (rest := []) (wr := ((kRoot so co sh xo mo no djo ss_7 sq_8) ++ (kHist kI kA kC sh qo_12 qa_13 qv_14 qr_15 qg_9 qw_10 qV_11))) (Wn := fun u => ((kRoot so co sh xo mo no djo ss_7 sq_8) ++ ((kCake kI kA co ca cv cr cg cw u) ++ (kHist kI kA kC sh qo_12 qa_13 qv_14 qr_15 qg_9 qw_10 qV_11)))) ⟨hx, hb, hml, hown, hts⟩ (c_X0_setValues l dC dI kI kA kC co ca cv cr _ cg cw cV a1 a2 a3 a4 _ hw) (cwV 4 hts gX6_setValue_X0_setValues rfl rfl rfl (by decide +kernel) ⟨Nat.le_of_ble_eq_true rfl, Nat.le_of_ble_eq_true rfl⟩) hK hP hD hS hA [1, 2, 3, 4, 5, 6, 7] [0, 8, 9, 10, 11, 12, 13, 14, 15, 16, 17, 18, 19, 20, 21, 22, 23, 24, 25, 26, 27, 28, 29, 30, 31, 32, 33, 34, 35, 36, 37, 38, 39, 40, 41, 42, 43] [0, 37, 38, 39, 40, 41, 42, 43, 1, 2, 3, 4, 5, 6, 7, 8, 9, 10, 11, 12, 13, 14, 15, 16, 17, 18, 19, 20, 21, 22, 23, 24, 25, 26, 27, 28, 29, 30, 31, 32, 33, 34, 35, 36] rfl rfl (by decide) (by decide) (by decide) (fun u => rfl) (by decide) rfl rfl rfl rfl hl.1 rfl (Nat.le_of_ble_eq_true rfl) dX6_setValue_46 ⟨Nat.zero_le _, Nat.zero_le _⟩ (fun cV_16 H locs hw hP hD hS => ?_)
          have hP : va_P (dC, dI) vwCl ((kRoot so co sh xo mo no djo ss_7 sq_8) ++ ((kCake kI kA co ca cv cr cg cw cV_16) ++ (kHist kI kA kC sh qo_12 qa_13 qv_14 qr_15 qg_9 qw_10 qV_11))) H := hP
          have hD : va_D A ((kRoot so co sh xo mo no djo ss_7 sq_8) ++ ((kCake kI kA co ca cv cr cg cw cV_16) ++ (kHist kI kA kC sh qo_12 qa_13 qv_14 qr_15 qg_9 qw_10 qV_11))) := hD
          refine lv_aload_n hx hb dX6_setValue_49 rfl (lv_at hl 0 rfl) ?_
          refine va_get (D := (dC, dI)) (ci := 6) (v := .ref co) (C := RX6) (T := TX6) (N := 8) hx hb hts in_X6_setValue_X6 hown hK hP 0 rfl rfl 0 (by decide) (hts (.fieldLink RX6 10 "CakeMarks" "cake" "LCakeMarks$Cake;") (List.mem_of_getElem? (i := 1) rfl)) (fun _ h9 => h9) rfl dX6_setValue_50 ?_
          refine lv_iload_n hx hb dX6_setValue_53 rfl (lv_at hl 1 rfl) ?_
          refine zcallI (ci := 0) (q0 := 0) (As := [.int a1]) (rest := []) (wr := ((kRoot so co sh xo mo no djo ss_7 sq_8) ++ (kHist kI kA kC sh qo_12 qa_13 qv_14 qr_15 qg_9 qw_10 qV_11))) (Wn := fun u => ((kRoot so co sh xo mo no djo ss_7 sq_8) ++ ((kCake kI kA co ca cv cr cg cw cV_16) ++ (kHist kI kA kC sh qo_12 qa_13 qv_14 qr_15 qg_9 qw_10 qV_11)))) ⟨hx, hb, hml, hown, hts⟩ (c_X0_total l dC dI kI kA kC co ca cv cr _ cg cw cV_16 a1 _ hw) (cwV 1 hts gX6_setValue_X0_total rfl rfl rfl (by decide +kernel) ⟨Nat.le_of_ble_eq_true rfl, Nat.le_of_ble_eq_true rfl⟩) hK hP hD hS hA [1, 2, 3, 4, 5, 6, 7] [0, 8, 9, 10, 11, 12, 13, 14, 15, 16, 17, 18, 19, 20, 21, 22, 23, 24, 25, 26, 27, 28, 29, 30, 31, 32, 33, 34, 35, 36, 37, 38, 39, 40, 41, 42, 43] [0, 37, 38, 39, 40, 41, 42, 43, 1, 2, 3, 4, 5, 6, 7, 8, 9, 10, 11, 12, 13, 14, 15, 16, 17, 18, 19, 20, 21, 22, 23, 24, 25, 26, 27, 28, 29, 30, 31, 32, 33, 34, 35, 36] rfl rfl (by decide) (by decide) (by decide) (fun u => rfl) (by decide) rfl rfl rfl rfl hl.1 rfl (Nat.le_of_ble_eq_true rfl) dX6_setValue_54 ⟨Nat.zero_le _, Nat.zero_le _⟩ (fun r_17 u H locs hw hP hD hS => ?_)
          have hP : va_P (dC, dI) vwCl ((kRoot so co sh xo mo no djo ss_7 sq_8) ++ ((kCake kI kA co ca cv cr cg cw cV_16) ++ (kHist kI kA kC sh qo_12 qa_13 qv_14 qr_15 qg_9 qw_10 qV_11))) H := hP
          have hD : va_D A ((kRoot so co sh xo mo no djo ss_7 sq_8) ++ ((kCake kI kA co ca cv cr cg cw cV_16) ++ (kHist kI kA kC sh qo_12 qa_13 qv_14 qr_15 qg_9 qw_10 qV_11))) := hD
          exact hret 57 r_17 (ss_7, sq_8, cV_16, qg_9, qw_10, qV_11, qo_12, qa_13, qv_14, qr_15) _ _ _ (fun h => absurd h (by decide)) hw hP hD hS dX6_setValue_57
        · have hw := hw.2 c_6
          refine lv_iconst (v := (-1 : Int32)) hx hb dX6_setValue_31 (by decide) ?_
          exact hret 32 (-1 : Int32) (ss, sq, cV, qg, qw, qV, qo, qa, qv, qr) _ _ _ (fun h => absurd h (by decide)) hw hP hD hS dX6_setValue_32
-- CakeMarks.append(I)I
def Wp_X6_append (xl : Int32) (xS : Nat → Int32) (a1 : Int32) (Z : Int32 → Int32 → (Nat → Int32) → Prop) : Prop := ((a1 < (1 : Int32) → (Z (-1 : Int32) xl xS)) ∧ (¬ a1 < (1 : Int32) → ((a1 ≤ (255 : Int32) → ((xl < (60 : Int32) → (Wp_X5_put xl xS a1 (fun r_6 xl_4 xS_5 => (Z r_6 xl_4 xS_5)))) ∧ (¬ xl < (60 : Int32) → (Z (-3 : Int32) xl xS)))) ∧ (¬ a1 ≤ (255 : Int32) → (Z (-1 : Int32) xl xS)))))
theorem in_X6_append_X5 : ∀ w ∈ u_ws RX5 TX5 5, w ∈ wsX6_append := fun w h => List.mem_cons_of_mem _ (List.mem_append_right _ h)
theorem in_X6_append_X6 : ∀ w ∈ u_ws RX6 TX6 8, w ∈ wsX6_append := fun w h => List.mem_cons_of_mem _ (List.mem_append_left _ (List.mem_append_right _ h))
set_option maxHeartbeats 20000000 in
set_option maxRecDepth 100000 in
theorem c_X6_append (l : Launch) (dC : Nat → ClassId) (dI : Nat → Nat → Nat) (kI kA kC : ClassId) (so : Nat) (co : Nat) (sh : Nat) (xo : Nat) (mo : Nat) (no : Nat) (djo : Nat) (xs : Nat) (xv : Nat) (sz : Nat) (ss : Int32) (sq : Int32) (xl : Int32) (xS : Nat → Int32) (xV : Nat → Int32) (xt : Int32) (xp : Int32) (a1 : Int32) (Z : Int32 → Int32 → (Nat → Int32) → Prop) (hw : Wp_X6_append xl xS a1 Z) : zI l yX6_append wsX6_append ({ frames := 1, cells := 0, slots := 0, locals := 21 }) dC dI kI kA kC sz 0 0 [.ref so, .int a1] ((kRoot so co sh xo mo no djo ss sq) ++ (kText kI xo xs xv xl xS xV xt xp)) (fun (r : Int32) (u : Int32 × (Nat → Int32)) => Z r u.1 u.2) (fun (u : Int32 × (Nat → Int32)) => ((kRoot so co sh xo mo no djo ss sq) ++ (kText kI xo xs xv u.1 u.2 xV xt xp))) := by
  refine zI.of (cc := cX6_append) (maxL := 2) (ty := .int) (by decide) rfl (Nat.le_of_ble_eq_true rfl) (Or.inl rfl) ?_
  intro p e s m args below meth c A Q C0 hret ls hl
  obtain ⟨hx, hb, hr, hml, hts, hown, hin, hP, hK, hD, hA, hS⟩ := C0
  have hown : s.vm.findClass RX6 = some m.cls := hown
  have hl : lv_has ls 2 [(0, .ref so), (1, .int a1)] := hl
  unfold Wp_X6_append at hw
  refine lv_iload_n hx hb dX6_append_0 rfl (lv_at hl 1 rfl) ?_
  refine lv_iconst (v := (1 : Int32)) hx hb dX6_append_1 (by decide) ?_
  refine lv_icmp_lt (tgt := 12) hx hb dX6_append_2 (by decide) (fun c_1 => ?_) (fun c_1 => ?_)
  · have hw := hw.1 c_1
    refine lv_iconst (v := (-1 : Int32)) hx hb dX6_append_12 (by decide) ?_
    exact hret 13 (-1 : Int32) (xl, xS) _ _ _ (fun h => absurd h (by decide)) hw hP hD hS dX6_append_13
  · have hw := hw.2 c_1
    refine lv_iload_n hx hb dX6_append_5 rfl (lv_at hl 1 rfl) ?_
    refine lv_sipush (v := (255 : Int32)) hx hb dX6_append_6 (by decide) ?_
    refine lv_icmp_le (tgt := 14) hx hb dX6_append_9 (by decide) (fun c_2 => ?_) (fun c_2 => ?_)
    · have hw := hw.1 c_2
      refine lv_aload_n hx hb dX6_append_14 rfl (lv_at hl 0 rfl) ?_
      refine va_get (D := (dC, dI)) (ci := 6) (v := .ref xo) (C := RX6) (T := TX6) (N := 8) hx hb hts in_X6_append_X6 hown hK hP 0 rfl rfl 3 (by decide) (hts (.fieldLink RX6 27 "CakeMarks" "text" "LCakeMarks$ValueText;") (List.mem_of_getElem? (i := 1) rfl)) (fun _ h9 => h9) rfl dX6_append_15 ?_
      refine va_get (D := (dC, dI)) (ci := 5) (v := .int xl) (C := RX5) (T := TX5) (N := 5) hx hb hts in_X6_append_X5 hown hK hP 1 rfl rfl 0 (by decide) (hts (.fieldLink RX6 82 "CakeMarks$ValueText" "length" "I") (List.mem_of_getElem? (i := 2) rfl)) (fun _ h9 => h9) rfl dX6_append_18 ?_
      refine lv_bipush (v := (60 : Int32)) hx hb dX6_append_21 (by decide) ?_
      refine lv_icmp_lt (tgt := 29) hx hb dX6_append_23 (by decide) (fun c_3 => ?_) (fun c_3 => ?_)
      · have hw := hw.1 c_3
        refine lv_aload_n hx hb dX6_append_29 rfl (lv_at hl 0 rfl) ?_
        refine va_get (D := (dC, dI)) (ci := 6) (v := .ref xo) (C := RX6) (T := TX6) (N := 8) hx hb hts in_X6_append_X6 hown hK hP 0 rfl rfl 3 (by decide) (hts (.fieldLink RX6 27 "CakeMarks" "text" "LCakeMarks$ValueText;") (List.mem_of_getElem? (i := 1) rfl)) (fun _ h9 => h9) rfl dX6_append_30 ?_
        refine lv_iload_n hx hb dX6_append_33 rfl (lv_at hl 1 rfl) ?_
        refine zcallI (ci := 5) (q0 := 0) (As := [.int a1]) (rest := []) (wr := (kRoot so co sh xo mo no djo ss sq)) (Wn := fun u => ((kRoot so co sh xo mo no djo ss sq) ++ (kText kI xo xs xv u.1 u.2 xV xt xp))) ⟨hx, hb, hml, hown, hts⟩ (c_X5_put l dC dI kI kA kC xo xs xv _ xl xS xV xt xp a1 _ hw) (cwV 1 hts gX6_append_X5_put rfl rfl rfl (by decide +kernel) ⟨Nat.le_of_ble_eq_true rfl, Nat.le_of_ble_eq_true rfl⟩) hK hP hD hS hA [1, 2, 3] [0] [0, 1, 2, 3] rfl rfl (by decide) (by decide) (by decide) (fun u => rfl) (by decide) rfl rfl rfl rfl hl.1 rfl (Nat.le_of_ble_eq_true rfl) dX6_append_34 ⟨Nat.zero_le _, Nat.zero_le _⟩ (fun r_6 u H locs hw hP hD hS => ?_)
        obtain ⟨xl_4, xS_5⟩ := u
        have hP : va_P (dC, dI) vwCl ((kRoot so co sh xo mo no djo ss sq) ++ (kText kI xo xs xv xl_4 xS_5 xV xt xp)) H := hP
        have hD : va_D A ((kRoot so co sh xo mo no djo ss sq) ++ (kText kI xo xs xv xl_4 xS_5 xV xt xp)) := hD
        exact hret 37 r_6 (xl_4, xS_5) _ _ _ (fun h => absurd h (by decide)) hw hP hD hS dX6_append_37
      · have hw := hw.2 c_3
        refine lv_bipush (v := (-3 : Int32)) hx hb dX6_append_26 (by decide) ?_
        exact hret 28 (-3 : Int32) (xl, xS) _ _ _ (fun h => absurd h (by decide)) hw hP hD hS dX6_append_28
    · have hw := hw.2 c_2
      refine lv_iconst (v := (-1 : Int32)) hx hb dX6_append_12 (by decide) ?_
      exact hret 13 (-1 : Int32) (xl, xS) _ _ _ (fun h => absurd h (by decide)) hw hP hD hS dX6_append_13
-- CakeMarks.clearText()I
def Wp_X6_clearText (xl : Int32) (Z : Int32 → Int32 → Prop) : Prop := (Z xl (0 : Int32))
theorem in_X6_clearText_X5 : ∀ w ∈ u_ws RX5 TX5 5, w ∈ wsX6_clearText := fun w h => List.mem_cons_of_mem _ (List.mem_append_right _ h)
theorem in_X6_clearText_X6 : ∀ w ∈ u_ws RX6 TX6 8, w ∈ wsX6_clearText := fun w h => List.mem_cons_of_mem _ (List.mem_append_left _ (List.mem_append_right _ h))
set_option maxHeartbeats 20000000 in
set_option maxRecDepth 100000 in
theorem c_X6_clearText (l : Launch) (dC : Nat → ClassId) (dI : Nat → Nat → Nat) (kI kA kC : ClassId) (so : Nat) (co : Nat) (sh : Nat) (xo : Nat) (mo : Nat) (no : Nat) (djo : Nat) (xs : Nat) (xv : Nat) (sz : Nat) (ss : Int32) (sq : Int32) (xl : Int32) (xS : Nat → Int32) (xV : Nat → Int32) (xt : Int32) (xp : Int32) (Z : Int32 → Int32 → Prop) (hw : Wp_X6_clearText xl Z) : zI l yX6_clearText wsX6_clearText ({ frames := 0, cells := 0, slots := 0, locals := 0 }) dC dI kI kA kC sz 0 0 [.ref so] ((kRoot so co sh xo mo no djo ss sq) ++ (kText kI xo xs xv xl xS xV xt xp)) (fun (r : Int32) (u : Int32) => Z r u) (fun (u : Int32) => ((kRoot so co sh xo mo no djo ss sq) ++ (kText kI xo xs xv u xS xV xt xp))) := by
  refine zI.of (cc := cX6_clearText) (maxL := 2) (ty := .int) (by decide) rfl (Nat.le_of_ble_eq_true rfl) (Or.inl rfl) ?_
  intro p e s m args below meth c A Q C0 hret ls hl
  obtain ⟨hx, hb, hr, hml, hts, hown, hin, hP, hK, hD, hA, hS⟩ := C0
  have hown : s.vm.findClass RX6 = some m.cls := hown
  have hl : lv_has ls 2 [(0, .ref so)] := hl
  unfold Wp_X6_clearText at hw
  refine lv_aload_n hx hb dX6_clearText_0 rfl (lv_at hl 0 rfl) ?_
  refine va_get (D := (dC, dI)) (ci := 6) (v := .ref xo) (C := RX6) (T := TX6) (N := 8) hx hb hts in_X6_clearText_X6 hown hK hP 0 rfl rfl 3 (by decide) (hts (.fieldLink RX6 27 "CakeMarks" "text" "LCakeMarks$ValueText;") (List.mem_of_getElem? (i := 1) rfl)) (fun _ h9 => h9) rfl dX6_clearText_1 ?_
  refine va_get (D := (dC, dI)) (ci := 5) (v := .int xl) (C := RX5) (T := TX5) (N := 5) hx hb hts in_X6_clearText_X5 hown hK hP 1 rfl rfl 0 (by decide) (hts (.fieldLink RX6 82 "CakeMarks$ValueText" "length" "I") (List.mem_of_getElem? (i := 2) rfl)) (fun _ h9 => h9) rfl dX6_clearText_4 ?_
  refine lv_istore_n (lv' := [(1, .int xl), (0, .ref so)]) hx hb dX6_clearText_7 rfl hl (by decide) rfl (fun ls hl => ?_)
  refine lv_aload_n hx hb dX6_clearText_8 rfl (lv_at hl 1 rfl) ?_
  refine va_get (D := (dC, dI)) (ci := 6) (v := .ref xo) (C := RX6) (T := TX6) (N := 8) hx hb hts in_X6_clearText_X6 hown hK hP 0 rfl rfl 3 (by decide) (hts (.fieldLink RX6 27 "CakeMarks" "text" "LCakeMarks$ValueText;") (List.mem_of_getElem? (i := 1) rfl)) (fun _ h9 => h9) rfl dX6_clearText_9 ?_
  refine lv_iconst (v := (0 : Int32)) hx hb dX6_clearText_12 (by decide) ?_
  refine va_put (D := (dC, dI)) (ci := 5) (v := .int (0 : Int32)) (ty := .int) (C := RX5) (T := TX5) (N := 5) hx hb hts in_X6_clearText_X5 tyX5 tyX5_ok nmX5 hown hK hP hD hS 1 rfl rfl 0 (by decide) (hts (.fieldLink RX6 82 "CakeMarks$ValueText" "length" "I") (List.mem_of_getElem? (i := 2) rfl)) (fun _ h9 => h9) rfl (by decide +kernel) rfl rfl (Nat.le_of_ble_eq_true rfl) dX6_clearText_13 (fun H locs hP hD hS => ?_)
  have hP : va_P (dC, dI) vwCl ((kRoot so co sh xo mo no djo ss sq) ++ (kText kI xo xs xv (0 : Int32) xS xV xt xp)) H := hP
  have hD : va_D A ((kRoot so co sh xo mo no djo ss sq) ++ (kText kI xo xs xv (0 : Int32) xS xV xt xp)) := hD
  refine lv_iload_n hx hb dX6_clearText_16 rfl (lv_at hl 0 rfl) ?_
  exact hret 17 xl (0 : Int32) _ _ _ (fun h => absurd h (by decide)) hw hP hD hS dX6_clearText_17
-- CakeMarks.read(I)I
def Wp_X6_read (ss : Int32) (sq : Int32) (cg : Int32) (cw : Nat → Int32) (cV : Nat → Nat → Int32) (qg : Nat → Int32) (qw : Nat → Nat → Int32) (qV : Nat → Nat → Nat → Int32) (xl : Int32) (xS : Nat → Int32) (xV : Nat → Int32) (xt : Int32) (xp : Int32) (a1 : Int32) (Z : Int32 → Int32 → Int32 → (Nat → Nat → Int32) → (Nat → Int32) → (Nat → Nat → Int32) → (Nat → Nat → Nat → Int32) → (Nat → Int32) → Int32 → Int32 → Prop) : Prop := (Wp_X0_isGuest cg a1 (fun r_1 => ((¬ r_1 = (0 : Int32) → (Wp_X5_findFailure xl xS xV xt xp (fun r_6 xV_3 xt_4 xp_5 => ((r_6 = (-1 : Int32) → (Wp_X6_record ss sq cg cw cV qg qw qV (fun ss_8 sq_9 qg_10 qw_11 qV_12 => (Wp_X0_takeValues cV xV_3 a1 (fun cV_17 => (Wp_X0_total cV_17 a1 (fun r_18 => (Z r_18 ss_8 sq_9 cV_17 qg_10 qw_11 qV_12 xV_3 xt_4 xp_5)))))))) ∧ (¬ r_6 = (-1 : Int32) → (Z ((-1000 : Int32) - r_6) ss sq cV qg qw qV xV_3 xt_4 xp_5)))))) ∧ (r_1 = (0 : Int32) → (Z (-1 : Int32) ss sq cV qg qw qV xV xt xp)))))
theorem in_X6_read_X5 : ∀ w ∈ u_ws RX5 TX5 5, w ∈ wsX6_read := fun w h => List.mem_cons_of_mem _ (List.mem_append_left _ (List.mem_append_right _ h))
theorem in_X6_read_X6 : ∀ w ∈ u_ws RX6 TX6 8, w ∈ wsX6_read := fun w h => List.mem_cons_of_mem _ (List.mem_append_left _ (List.mem_append_left _ (List.mem_append_right _ h)))
set_option maxHeartbeats 20000000 in
set_option maxRecDepth 100000 in
theorem c_X6_read (l : Launch) (dC : Nat → ClassId) (dI : Nat → Nat → Nat) (kI kA kC : ClassId) (so : Nat) (co : Nat) (sh : Nat) (xo : Nat) (mo : Nat) (no : Nat) (djo : Nat) (ca : Nat) (cv : Nat) (cr : Nat → Nat) (qo : Nat → Nat) (qa : Nat → Nat) (qv : Nat → Nat) (qr : Nat → Nat → Nat) (xs : Nat) (xv : Nat) (sz : Nat) (ss : Int32) (sq : Int32) (cg : Int32) (cw : Nat → Int32) (cV : Nat → Nat → Int32) (qg : Nat → Int32) (qw : Nat → Nat → Int32) (qV : Nat → Nat → Nat → Int32) (xl : Int32) (xS : Nat → Int32) (xV : Nat → Int32) (xt : Int32) (xp : Int32) (a1 : Int32) (Z : Int32 → Int32 → Int32 → (Nat → Nat → Int32) → (Nat → Int32) → (Nat → Nat → Int32) → (Nat → Nat → Nat → Int32) → (Nat → Int32) → Int32 → Int32 → Prop) (hw : Wp_X6_read ss sq cg cw cV qg qw qV xl xS xV xt xp a1 Z) : zI l yX6_read wsX6_read ({ frames := 4, cells := 0, slots := 0, locals := 94 }) dC dI kI kA kC sz 0 0 [.ref so, .int a1] ((kRoot so co sh xo mo no djo ss sq) ++ ((kCake kI kA co ca cv cr cg cw cV) ++ ((kHist kI kA kC sh qo qa qv qr qg qw qV) ++ (kText kI xo xs xv xl xS xV xt xp)))) (fun (r : Int32) (u : Int32 × Int32 × (Nat → Nat → Int32) × (Nat → Int32) × (Nat → Nat → Int32) × (Nat → Nat → Nat → Int32) × (Nat → Int32) × Int32 × Int32 × (Nat → Nat) × (Nat → Nat) × (Nat → Nat) × (Nat → Nat → Nat)) => Z r u.1 u.2.1 u.2.2.1 u.2.2.2.1 u.2.2.2.2.1 u.2.2.2.2.2.1 u.2.2.2.2.2.2.1 u.2.2.2.2.2.2.2.1 u.2.2.2.2.2.2.2.2.1) (fun (u : Int32 × Int32 × (Nat → Nat → Int32) × (Nat → Int32) × (Nat → Nat → Int32) × (Nat → Nat → Nat → Int32) × (Nat → Int32) × Int32 × Int32 × (Nat → Nat) × (Nat → Nat) × (Nat → Nat) × (Nat → Nat → Nat)) => ((kRoot so co sh xo mo no djo u.1 u.2.1) ++ ((kCake kI kA co ca cv cr cg cw u.2.2.1) ++ ((kHist kI kA kC sh u.2.2.2.2.2.2.2.2.2.1 u.2.2.2.2.2.2.2.2.2.2.1 u.2.2.2.2.2.2.2.2.2.2.2.1 u.2.2.2.2.2.2.2.2.2.2.2.2 u.2.2.2.1 u.2.2.2.2.1 u.2.2.2.2.2.1) ++ (kText kI xo xs xv xl xS u.2.2.2.2.2.2.1 u.2.2.2.2.2.2.2.1 u.2.2.2.2.2.2.2.2.1))))) := by
  refine zI.of (cc := cX6_read) (maxL := 3) (ty := .int) (by decide) rfl (Nat.le_of_ble_eq_true rfl) (Or.inl rfl) ?_
  intro p e s m args below meth c A Q C0 hret ls hl
  obtain ⟨hx, hb, hr, hml, hts, hown, hin, hP, hK, hD, hA, hS⟩ := C0
  have hown : s.vm.findClass RX6 = some m.cls := hown
  have hl : lv_has ls 3 [(0, .ref so), (1, .int a1)] := hl
  unfold Wp_X6_read at hw
  refine lv_aload_n hx hb dX6_read_0 rfl (lv_at hl 0 rfl) ?_
  refine va_get (D := (dC, dI)) (ci := 6) (v := .ref co) (C := RX6) (T := TX6) (N := 8) hx hb hts in_X6_read_X6 hown hK hP 0 rfl rfl 0 (by decide) (hts (.fieldLink RX6 10 "CakeMarks" "cake" "LCakeMarks$Cake;") (List.mem_of_getElem? (i := 1) rfl)) (fun _ h9 => h9) rfl dX6_read_1 ?_
  refine lv_iload_n hx hb dX6_read_4 rfl (lv_at hl 1 rfl) ?_
  refine zcallI (ci := 0) (q0 := 0) (As := [.int a1]) (rest := []) (wr := ((kRoot so co sh xo mo no djo ss sq) ++ ((kHist kI kA kC sh qo qa qv qr qg qw qV) ++ (kText kI xo xs xv xl xS xV xt xp)))) (Wn := fun u => ((kRoot so co sh xo mo no djo ss sq) ++ ((kCake kI kA co ca cv cr cg cw cV) ++ ((kHist kI kA kC sh qo qa qv qr qg qw qV) ++ (kText kI xo xs xv xl xS xV xt xp))))) ⟨hx, hb, hml, hown, hts⟩ (c_X0_isGuest l dC dI kI kA kC co ca cv cr _ cg cw cV a1 _ hw) (cwV 1 hts gX6_read_X0_isGuest rfl rfl rfl (by decide +kernel) ⟨Nat.le_of_ble_eq_true rfl, Nat.le_of_ble_eq_true rfl⟩) hK hP hD hS hA [1, 2, 3, 4, 5, 6, 7] [0, 8, 9, 10, 11, 12, 13, 14, 15, 16, 17, 18, 19, 20, 21, 22, 23, 24, 25, 26, 27, 28, 29, 30, 31, 32, 33, 34, 35, 36, 37, 38, 39, 40, 41, 42, 43, 44, 45, 46] [0, 40, 41, 42, 43, 44, 45, 46, 1, 2, 3, 4, 5, 6, 7, 8, 9, 10, 11, 12, 13, 14, 15, 16, 17, 18, 19, 20, 21, 22, 23, 24, 25, 26, 27, 28, 29, 30, 31, 32, 33, 34, 35, 36, 37, 38, 39] rfl rfl (by decide) (by decide) (by decide) (fun u => rfl) (by decide) rfl rfl rfl rfl hl.1 rfl (Nat.le_of_ble_eq_true rfl) dX6_read_5 ⟨Nat.zero_le _, Nat.zero_le _⟩ (fun r_1 u H locs hw hP hD hS => ?_)
  have hP : va_P (dC, dI) vwCl ((kRoot so co sh xo mo no djo ss sq) ++ ((kCake kI kA co ca cv cr cg cw cV) ++ ((kHist kI kA kC sh qo qa qv qr qg qw qV) ++ (kText kI xo xs xv xl xS xV xt xp)))) H := hP
  have hD : va_D A ((kRoot so co sh xo mo no djo ss sq) ++ ((kCake kI kA co ca cv cr cg cw cV) ++ ((kHist kI kA kC sh qo qa qv qr qg qw qV) ++ (kText kI xo xs xv xl xS xV xt xp)))) := hD
  refine lv_if_ne (tgt := 13) hx hb dX6_read_8 (by decide) (fun c_2 => ?_) (fun c_2 => ?_)
  · have hw := hw.1 c_2
    refine lv_aload_n hx hb dX6_read_13 rfl (lv_at hl 0 rfl) ?_
    refine va_get (D := (dC, dI)) (ci := 6) (v := .ref xo) (C := RX6) (T := TX6) (N := 8) hx hb hts in_X6_read_X6 hown hK hP 0 rfl rfl 3 (by decide) (hts (.fieldLink RX6 27 "CakeMarks" "text" "LCakeMarks$ValueText;") (List.mem_of_getElem? (i := 2) rfl)) (fun _ h9 => h9) rfl dX6_read_14 ?_
    refine zcallI (ci := 5) (q0 := 0) (As := []) (rest := []) (wr := ((kRoot so co sh xo mo no djo ss sq) ++ ((kCake kI kA co ca cv cr cg cw cV) ++ (kHist kI kA kC sh qo qa qv qr qg qw qV)))) (Wn := fun u => ((kRoot so co sh xo mo no djo ss sq) ++ ((kCake kI kA co ca cv cr cg cw cV) ++ ((kHist kI kA kC sh qo qa qv qr qg qw qV) ++ (kText kI xo xs xv xl xS u.1 u.2.1 u.2.2))))) ⟨hx, hb, hml, hown, hts⟩ (c_X5_findFailure l dC dI kI kA kC xo xs xv _ xl xS xV xt xp _ hw) (cwV 0 hts gX6_read_X5_findFailure rfl rfl rfl (by decide +kernel) ⟨Nat.le_of_ble_eq_true rfl, Nat.le_of_ble_eq_true rfl⟩) hK hP hD hS hA [44, 45, 46] [0, 1, 2, 3, 4, 5, 6, 7, 8, 9, 10, 11, 12, 13, 14, 15, 16, 17, 18, 19, 20, 21, 22, 23, 24, 25, 26, 27, 28, 29, 30, 31, 32, 33, 34, 35, 36, 37, 38, 39, 40, 41, 42, 43] [0, 1, 2, 3, 4, 5, 6, 7, 8, 9, 10, 11, 12, 13, 14, 15, 16, 17, 18, 19, 20, 21, 22, 23, 24, 25, 26, 27, 28, 29, 30, 31, 32, 33, 34, 35, 36, 37, 38, 39, 40, 41, 42, 43, 44, 45, 46] rfl rfl (by decide) (by decide) (by decide) (fun u => rfl) (by decide) rfl rfl rfl rfl hl.1 rfl (Nat.le_of_ble_eq_true rfl) dX6_read_17 ⟨Nat.zero_le _, Nat.zero_le _⟩ (fun r_6 u H locs hw hP hD hS => ?_)
    obtain ⟨xV_3, xt_4, xp_5⟩ := u
    have hP : va_P (dC, dI) vwCl ((kRoot so co sh xo mo no djo ss sq) ++ ((kCake kI kA co ca cv cr cg cw cV) ++ ((kHist kI kA kC sh qo qa qv qr qg qw qV) ++ (kText kI xo xs xv xl xS xV_3 xt_4 xp_5)))) H := hP
    have hD : va_D A ((kRoot so co sh xo mo no djo ss sq) ++ ((kCake kI kA co ca cv cr cg cw cV) ++ ((kHist kI kA kC sh qo qa qv qr qg qw qV) ++ (kText kI xo xs xv xl xS xV_3 xt_4 xp_5)))) := hD
    refine lv_istore_n (lv' := [(2, .int r_6), (0, .ref so), (1, .int a1)]) hx hb dX6_read_20 rfl hl (by decide) rfl (fun ls hl => ?_)
    refine lv_iload_n hx hb dX6_read_21 rfl (lv_at hl 0 rfl) ?_
    refine lv_iconst (v := (-1 : Int32)) hx hb dX6_read_22 (by decide) ?_
    refine lv_icmp_eq (tgt := 32) hx hb dX6_read_23 (by decide) (fun c_7 => ?_) (fun c_7 => ?_)
    · have hw := hw.1 c_7
      refine lv_aload_n hx hb dX6_read_32 rfl (lv_at hl 1 rfl) ?_
      refine zcallV (ci := 6) (q0 := 0) (As := []) (rest := []) (wr := (kText kI xo xs xv xl xS xV_3 xt_4 xp_5)) (Wn := fun u => ((kRoot so co sh xo mo no djo u.1 u.2.1) ++ ((kCake kI kA co ca cv cr cg cw cV) ++ ((kHist kI kA kC sh u.2.2.2.2.2.1 u.2.2.2.2.2.2.1 u.2.2.2.2.2.2.2.1 u.2.2.2.2.2.2.2.2 u.2.2.1 u.2.2.2.1 u.2.2.2.2.1) ++ (kText kI xo xs xv xl xS xV_3 xt_4 xp_5))))) ⟨hx, hb, hml, hown, hts⟩ (c_X6_record l dC dI kI kA kC so co sh xo mo no djo ca cv cr qo qa qv qr _ ss sq cg cw cV qg qw qV _ hw) (cwV 0 hts gX6_read_X6_record rfl rfl rfl (by decide +kernel) ⟨Nat.le_of_ble_eq_true rfl, Nat.le_of_ble_eq_true rfl⟩) hK hP hD hS hA [0, 1, 2, 3, 4, 5, 6, 7, 8, 9, 10, 11, 12, 13, 14, 15, 16, 17, 18, 19, 20, 21, 22, 23, 24, 25, 26, 27, 28, 29, 30, 31, 32, 33, 34, 35, 36, 37, 38, 39, 40, 41, 42, 43] [44, 45, 46] [3, 4, 5, 6, 7, 8, 9, 10, 11, 12, 13, 14, 15, 16, 17, 18, 19, 20, 21, 22, 23, 24, 25, 26, 27, 28, 29, 30, 31, 32, 33, 34, 35, 36, 37, 38, 39, 40, 41, 42, 43, 44, 45, 46, 0, 1, 2] rfl rfl (by decide) (by decide) (by decide) (fun u => rfl) (by decide) rfl rfl rfl rfl hl.1 rfl (Nat.le_of_ble_eq_true rfl) dX6_read_33 ⟨Nat.zero_le _, Nat.zero_le _⟩ (fun u H locs hw hP hD hS => ?_)
      obtain ⟨ss_8, sq_9, qg_10, qw_11, qV_12, qo_13, qa_14, qv_15, qr_16⟩ := u
      have hP : va_P (dC, dI) vwCl ((kRoot so co sh xo mo no djo ss_8 sq_9) ++ ((kCake kI kA co ca cv cr cg cw cV) ++ ((kHist kI kA kC sh qo_13 qa_14 qv_15 qr_16 qg_10 qw_11 qV_12) ++ (kText kI xo xs xv xl xS xV_3 xt_4 xp_5)))) H := hP
      have hD : va_D A ((kRoot so co sh xo mo no djo ss_8 sq_9) ++ ((kCake kI kA co ca cv cr cg cw cV) ++ ((kHist kI kA kC sh qo_13 qa_14 qv_15 qr_16 qg_10 qw_11 qV_12) ++ (kText kI xo xs xv xl xS xV_3 xt_4 xp_5)))) := hD
      refine lv_aload_n hx hb dX6_read_36 rfl (lv_at hl 1 rfl) ?_
      refine va_get (D := (dC, dI)) (ci := 6) (v := .ref co) (C := RX6) (T := TX6) (N := 8) hx hb hts in_X6_read_X6 hown hK hP 0 rfl rfl 0 (by decide) (hts (.fieldLink RX6 10 "CakeMarks" "cake" "LCakeMarks$Cake;") (List.mem_of_getElem? (i := 1) rfl)) (fun _ h9 => h9) rfl dX6_read_37 ?_
      refine lv_iload_n hx hb dX6_read_40 rfl (lv_at hl 2 rfl) ?_
      refine lv_aload_n hx hb dX6_read_41 rfl (lv_at hl 1 rfl) ?_
      refine va_get (D := (dC, dI)) (ci := 6) (v := .ref xo) (C := RX6) (T := TX6) (N := 8) hx hb hts in_X6_read_X6 hown hK hP 0 rfl rfl 3 (by decide) (hts (.fieldLink RX6 27 "CakeMarks" "text" "LCakeMarks$ValueText;") (List.mem_of_getElem? (i := 2) rfl)) (fun _ h9 => h9) rfl dX6_read_42 ?_
      refine va_get (D := (dC, dI)) (ci := 5) (v := .ref xv) (C := RX5) (T := TX5) (N := 5) hx hb hts in_X6_read_X5 hown hK hP 44 rfl rfl 2 (by decide) (hts (.fieldLink RX6 91 "CakeMarks$ValueText" "values" "[I") (List.mem_of_getElem? (i := 3) rfl)) (fun _ h9 => h9) rfl dX6_read_45 ?_
      refine zcallV (ci := 0) (q0 := 0) (As := [.int a1, .ref xv]) (rest := []) (wr := (((kRoot so co sh xo mo no djo ss_8 sq_9) ++ ((kHist kI kA kC sh qo_13 qa_14 qv_15 qr_16 qg_10 qw_11 qV_12) ++ [(xo, .inr (5, [.int xl, .ref xs, .ref xv, .int xt_4, .int xp_5])), (xs, zi kI 60 xS)])) : va_W)) (Wn := fun u => ((kRoot so co sh xo mo no djo ss_8 sq_9) ++ ((kCake kI kA co ca cv cr cg cw u) ++ ((kHist kI kA kC sh qo_13 qa_14 qv_15 qr_16 qg_10 qw_11 qV_12) ++ (kText kI xo xs xv xl xS xV_3 xt_4 xp_5))))) ⟨hx, hb, hml, hown, hts⟩ (c_X0_takeValues l dC dI kI kA kC co ca cv cr xv _ cg cw cV xV_3 a1 _ hw) (cwV 2 hts gX6_read_X0_takeValues rfl rfl rfl (by decide +kernel) ⟨Nat.le_of_ble_eq_true rfl, Nat.le_of_ble_eq_true rfl⟩) hK hP hD hS hA [1, 2, 3, 4, 5, 6, 7, 46] [0, 8, 9, 10, 11, 12, 13, 14, 15, 16, 17, 18, 19, 20, 21, 22, 23, 24, 25, 26, 27, 28, 29, 30, 31, 32, 33, 34, 35, 36, 37, 38, 39, 40, 41, 42, 43, 44, 45] [0, 39, 40, 41, 42, 43, 44, 45, 1, 2, 3, 4, 5, 6, 7, 8, 9, 10, 11, 12, 13, 14, 15, 16, 17, 18, 19, 20, 21, 22, 23, 24, 25, 26, 27, 28, 29, 30, 31, 32, 33, 34, 35, 36, 37, 38, 46] rfl rfl (by decide) (by decide) (by decide) (fun u => rfl) (by decide) rfl rfl rfl rfl hl.1 rfl (Nat.le_of_ble_eq_true rfl) dX6_read_48 ⟨Nat.zero_le _, Nat.zero_le _⟩ (fun cV_17 H locs hw hP hD hS => ?_)
      have hP : va_P (dC, dI) vwCl ((kRoot so co sh xo mo no djo ss_8 sq_9) ++ ((kCake kI kA co ca cv cr cg cw cV_17) ++ ((kHist kI kA kC sh qo_13 qa_14 qv_15 qr_16 qg_10 qw_11 qV_12) ++ (kText kI xo xs xv xl xS xV_3 xt_4 xp_5)))) H := hP
      have hD : va_D A ((kRoot so co sh xo mo no djo ss_8 sq_9) ++ ((kCake kI kA co ca cv cr cg cw cV_17) ++ ((kHist kI kA kC sh qo_13 qa_14 qv_15 qr_16 qg_10 qw_11 qV_12) ++ (kText kI xo xs xv xl xS xV_3 xt_4 xp_5)))) := hD
      refine lv_aload_n hx hb dX6_read_51 rfl (lv_at hl 1 rfl) ?_
      refine va_get (D := (dC, dI)) (ci := 6) (v := .ref co) (C := RX6) (T := TX6) (N := 8) hx hb hts in_X6_read_X6 hown hK hP 0 rfl rfl 0 (by decide) (hts (.fieldLink RX6 10 "CakeMarks" "cake" "LCakeMarks$Cake;") (List.mem_of_getElem? (i := 1) rfl)) (fun _ h9 => h9) rfl dX6_read_52 ?_
      refine lv_iload_n hx hb dX6_read_55 rfl (lv_at hl 2 rfl) ?_
      refine zcallI (ci := 0) (q0 := 0) (As := [.int a1]) (rest := []) (wr := ((kRoot so co sh xo mo no djo ss_8 sq_9) ++ ((kHist kI kA kC sh qo_13 qa_14 qv_15 qr_16 qg_10 qw_11 qV_12) ++ (kText kI xo xs xv xl xS xV_3 xt_4 xp_5)))) (Wn := fun u => ((kRoot so co sh xo mo no djo ss_8 sq_9) ++ ((kCake kI kA co ca cv cr cg cw cV_17) ++ ((kHist kI kA kC sh qo_13 qa_14 qv_15 qr_16 qg_10 qw_11 qV_12) ++ (kText kI xo xs xv xl xS xV_3 xt_4 xp_5))))) ⟨hx, hb, hml, hown, hts⟩ (c_X0_total l dC dI kI kA kC co ca cv cr _ cg cw cV_17 a1 _ hw) (cwV 1 hts gX6_read_X0_total rfl rfl rfl (by decide +kernel) ⟨Nat.le_of_ble_eq_true rfl, Nat.le_of_ble_eq_true rfl⟩) hK hP hD hS hA [1, 2, 3, 4, 5, 6, 7] [0, 8, 9, 10, 11, 12, 13, 14, 15, 16, 17, 18, 19, 20, 21, 22, 23, 24, 25, 26, 27, 28, 29, 30, 31, 32, 33, 34, 35, 36, 37, 38, 39, 40, 41, 42, 43, 44, 45, 46] [0, 40, 41, 42, 43, 44, 45, 46, 1, 2, 3, 4, 5, 6, 7, 8, 9, 10, 11, 12, 13, 14, 15, 16, 17, 18, 19, 20, 21, 22, 23, 24, 25, 26, 27, 28, 29, 30, 31, 32, 33, 34, 35, 36, 37, 38, 39] rfl rfl (by decide) (by decide) (by decide) (fun u => rfl) (by decide) rfl rfl rfl rfl hl.1 rfl (Nat.le_of_ble_eq_true rfl) dX6_read_56 ⟨Nat.zero_le _, Nat.zero_le _⟩ (fun r_18 u H locs hw hP hD hS => ?_)
      have hP : va_P (dC, dI) vwCl ((kRoot so co sh xo mo no djo ss_8 sq_9) ++ ((kCake kI kA co ca cv cr cg cw cV_17) ++ ((kHist kI kA kC sh qo_13 qa_14 qv_15 qr_16 qg_10 qw_11 qV_12) ++ (kText kI xo xs xv xl xS xV_3 xt_4 xp_5)))) H := hP
      have hD : va_D A ((kRoot so co sh xo mo no djo ss_8 sq_9) ++ ((kCake kI kA co ca cv cr cg cw cV_17) ++ ((kHist kI kA kC sh qo_13 qa_14 qv_15 qr_16 qg_10 qw_11 qV_12) ++ (kText kI xo xs xv xl xS xV_3 xt_4 xp_5)))) := hD
      exact hret 59 r_18 (ss_8, sq_9, cV_17, qg_10, qw_11, qV_12, xV_3, xt_4, xp_5, qo_13, qa_14, qv_15, qr_16) _ _ _ (fun h => absurd h (by decide)) hw hP hD hS dX6_read_59
    · have hw := hw.2 c_7
      refine lv_sipush (v := (-1000 : Int32)) hx hb dX6_read_26 (by decide) ?_
      refine lv_iload_n hx hb dX6_read_29 rfl (lv_at hl 0 rfl) ?_
      refine lv_isub hx hb dX6_read_30 ?_
      exact hret 31 ((-1000 : Int32) - r_6) (ss, sq, cV, qg, qw, qV, xV_3, xt_4, xp_5, qo, qa, qv, qr) _ _ _ (fun h => absurd h (by decide)) hw hP hD hS dX6_read_31
  · have hw := hw.2 c_2
    refine lv_iconst (v := (-1 : Int32)) hx hb dX6_read_11 (by decide) ?_
    exact hret 12 (-1 : Int32) (ss, sq, cV, qg, qw, qV, xV, xt, xp, qo, qa, qv, qr) _ _ _ (fun h => absurd h (by decide)) hw hP hD hS dX6_read_12
-- CakeMarks.give(III)I
def Wp_X6_give (ss : Int32) (sq : Int32) (cg : Int32) (cw : Nat → Int32) (cV : Nat → Nat → Int32) (qg : Nat → Int32) (qw : Nat → Nat → Int32) (qV : Nat → Nat → Nat → Int32) (a1 : Int32) (a2 : Int32) (a3 : Int32) (Z : Int32 → Int32 → Int32 → (Nat → Int32) → (Nat → Int32) → (Nat → Nat → Int32) → (Nat → Nat → Nat → Int32) → Prop) : Prop := (Wp_X0_isGuest cg a1 (fun r_1 => ((r_1 = (0 : Int32) → (Z (-1 : Int32) ss sq cw qg qw qV)) ∧ (¬ r_1 = (0 : Int32) → (Wp_X6_isSpan a2 a3 (fun r_3 => ((¬ r_3 = (0 : Int32) → (Wp_X6_record ss sq cg cw cV qg qw qV (fun ss_5 sq_6 qg_7 qw_8 qV_9 => (Wp_X0_handOut cw a1 a2 a3 (fun r_15 cw_14 => (Z r_15 ss_5 sq_6 cw_14 qg_7 qw_8 qV_9)))))) ∧ (r_3 = (0 : Int32) → (Z (-1 : Int32) ss sq cw qg qw qV)))))))))
theorem in_X6_give_X6 : ∀ w ∈ u_ws RX6 TX6 8, w ∈ wsX6_give := fun w h => List.mem_cons_of_mem _ (List.mem_append_left _ (List.mem_append_right _ h))
set_option maxHeartbeats 20000000 in
set_option maxRecDepth 100000 in
theorem c_X6_give (l : Launch) (dC : Nat → ClassId) (dI : Nat → Nat → Nat) (kI kA kC : ClassId) (so : Nat) (co : Nat) (sh : Nat) (xo : Nat) (mo : Nat) (no : Nat) (djo : Nat) (ca : Nat) (cv : Nat) (cr : Nat → Nat) (qo : Nat → Nat) (qa : Nat → Nat) (qv : Nat → Nat) (qr : Nat → Nat → Nat) (sz : Nat) (ss : Int32) (sq : Int32) (cg : Int32) (cw : Nat → Int32) (cV : Nat → Nat → Int32) (qg : Nat → Int32) (qw : Nat → Nat → Int32) (qV : Nat → Nat → Nat → Int32) (a1 : Int32) (a2 : Int32) (a3 : Int32) (Z : Int32 → Int32 → Int32 → (Nat → Int32) → (Nat → Int32) → (Nat → Nat → Int32) → (Nat → Nat → Nat → Int32) → Prop) (hw : Wp_X6_give ss sq cg cw cV qg qw qV a1 a2 a3 Z) : zI l yX6_give wsX6_give ({ frames := 4, cells := 0, slots := 0, locals := 94 }) dC dI kI kA kC sz 0 0 [.ref so, .int a1, .int a2, .int a3] ((kRoot so co sh xo mo no djo ss sq) ++ ((kCake kI kA co ca cv cr cg cw cV) ++ (kHist kI kA kC sh qo qa qv qr qg qw qV))) (fun (r : Int32) (u : Int32 × Int32 × (Nat → Int32) × (Nat → Int32) × (Nat → Nat → Int32) × (Nat → Nat → Nat → Int32) × (Nat → Nat) × (Nat → Nat) × (Nat → Nat) × (Nat → Nat → Nat)) => Z r u.1 u.2.1 u.2.2.1 u.2.2.2.1 u.2.2.2.2.1 u.2.2.2.2.2.1) (fun (u : Int32 × Int32 × (Nat → Int32) × (Nat → Int32) × (Nat → Nat → Int32) × (Nat → Nat → Nat → Int32) × (Nat → Nat) × (Nat → Nat) × (Nat → Nat) × (Nat → Nat → Nat)) => ((kRoot so co sh xo mo no djo u.1 u.2.1) ++ ((kCake kI kA co ca cv cr cg u.2.2.1 cV) ++ (kHist kI kA kC sh u.2.2.2.2.2.2.1 u.2.2.2.2.2.2.2.1 u.2.2.2.2.2.2.2.2.1 u.2.2.2.2.2.2.2.2.2 u.2.2.2.1 u.2.2.2.2.1 u.2.2.2.2.2.1)))) := by
  refine zI.of (cc := cX6_give) (maxL := 4) (ty := .int) (by decide) rfl (Nat.le_of_ble_eq_true rfl) (Or.inl rfl) ?_
  intro p e s m args below meth c A Q C0 hret ls hl
  obtain ⟨hx, hb, hr, hml, hts, hown, hin, hP, hK, hD, hA, hS⟩ := C0
  have hown : s.vm.findClass RX6 = some m.cls := hown
  have hl : lv_has ls 4 [(0, .ref so), (1, .int a1), (2, .int a2), (3, .int a3)] := hl
  unfold Wp_X6_give at hw
  refine lv_aload_n hx hb dX6_give_0 rfl (lv_at hl 0 rfl) ?_
  refine va_get (D := (dC, dI)) (ci := 6) (v := .ref co) (C := RX6) (T := TX6) (N := 8) hx hb hts in_X6_give_X6 hown hK hP 0 rfl rfl 0 (by decide) (hts (.fieldLink RX6 10 "CakeMarks" "cake" "LCakeMarks$Cake;") (List.mem_of_getElem? (i := 1) rfl)) (fun _ h9 => h9) rfl dX6_give_1 ?_
  refine lv_iload_n hx hb dX6_give_4 rfl (lv_at hl 1 rfl) ?_
  refine zcallI (ci := 0) (q0 := 0) (As := [.int a1]) (rest := []) (wr := ((kRoot so co sh xo mo no djo ss sq) ++ (kHist kI kA kC sh qo qa qv qr qg qw qV))) (Wn := fun u => ((kRoot so co sh xo mo no djo ss sq) ++ ((kCake kI kA co ca cv cr cg cw cV) ++ (kHist kI kA kC sh qo qa qv qr qg qw qV)))) ⟨hx, hb, hml, hown, hts⟩ (c_X0_isGuest l dC dI kI kA kC co ca cv cr _ cg cw cV a1 _ hw) (cwV 1 hts gX6_give_X0_isGuest rfl rfl rfl (by decide +kernel) ⟨Nat.le_of_ble_eq_true rfl, Nat.le_of_ble_eq_true rfl⟩) hK hP hD hS hA [1, 2, 3, 4, 5, 6, 7] [0, 8, 9, 10, 11, 12, 13, 14, 15, 16, 17, 18, 19, 20, 21, 22, 23, 24, 25, 26, 27, 28, 29, 30, 31, 32, 33, 34, 35, 36, 37, 38, 39, 40, 41, 42, 43] [0, 37, 38, 39, 40, 41, 42, 43, 1, 2, 3, 4, 5, 6, 7, 8, 9, 10, 11, 12, 13, 14, 15, 16, 17, 18, 19, 20, 21, 22, 23, 24, 25, 26, 27, 28, 29, 30, 31, 32, 33, 34, 35, 36] rfl rfl (by decide) (by decide) (by decide) (fun u => rfl) (by decide) rfl rfl rfl rfl hl.1 rfl (Nat.le_of_ble_eq_true rfl) dX6_give_5 ⟨Nat.zero_le _, Nat.zero_le _⟩ (fun r_1 u H locs hw hP hD hS => ?_)
  have hP : va_P (dC, dI) vwCl ((kRoot so co sh xo mo no djo ss sq) ++ ((kCake kI kA co ca cv cr cg cw cV) ++ (kHist kI kA kC sh qo qa qv qr qg qw qV))) H := hP
  have hD : va_D A ((kRoot so co sh xo mo no djo ss sq) ++ ((kCake kI kA co ca cv cr cg cw cV) ++ (kHist kI kA kC sh qo qa qv qr qg qw qV))) := hD
  refine lv_if_eq (tgt := 19) hx hb dX6_give_8 (by decide) (fun c_2 => ?_) (fun c_2 => ?_)
  · have hw := hw.1 c_2
    refine lv_iconst (v := (-1 : Int32)) hx hb dX6_give_19 (by decide) ?_
    exact hret 20 (-1 : Int32) (ss, sq, cw, qg, qw, qV, qo, qa, qv, qr) _ _ _ (fun h => absurd h (by decide)) hw hP hD hS dX6_give_20
  · have hw := hw.2 c_2
    refine lv_iload_n hx hb dX6_give_11 rfl (lv_at hl 2 rfl) ?_
    refine lv_iload_n hx hb dX6_give_12 rfl (lv_at hl 3 rfl) ?_
    refine zcallS (As := [.int a2, .int a3]) (rest := []) (wr := ((kRoot so co sh xo mo no djo ss sq) ++ ((kCake kI kA co ca cv cr cg cw cV) ++ (kHist kI kA kC sh qo qa qv qr qg qw qV)))) (Wn := fun u => ((kRoot so co sh xo mo no djo ss sq) ++ ((kCake kI kA co ca cv cr cg cw cV) ++ (kHist kI kA kC sh qo qa qv qr qg qw qV)))) ⟨hx, hb, hml, hown, hts⟩ (c_X6_isSpan l dC dI kI kA kC _ a2 a3 _ hw) (va_cwS 2 hts gX6_give_X6_isSpan rfl rfl rfl (by decide +kernel) ⟨Nat.le_of_ble_eq_true rfl, Nat.le_of_ble_eq_true rfl⟩) hK hP hD hS hA [] [0, 1, 2, 3, 4, 5, 6, 7, 8, 9, 10, 11, 12, 13, 14, 15, 16, 17, 18, 19, 20, 21, 22, 23, 24, 25, 26, 27, 28, 29, 30, 31, 32, 33, 34, 35, 36, 37, 38, 39, 40, 41, 42, 43] [0, 1, 2, 3, 4, 5, 6, 7, 8, 9, 10, 11, 12, 13, 14, 15, 16, 17, 18, 19, 20, 21, 22, 23, 24, 25, 26, 27, 28, 29, 30, 31, 32, 33, 34, 35, 36, 37, 38, 39, 40, 41, 42, 43] rfl rfl (by decide) (by decide) (by decide) (fun u => rfl) (by decide) rfl hl.1 rfl (Nat.le_of_ble_eq_true rfl) dX6_give_13 ⟨Nat.zero_le _, Nat.zero_le _⟩ (fun r_3 u H locs hw hP hD hS => ?_)
    have hP : va_P (dC, dI) vwCl ((kRoot so co sh xo mo no djo ss sq) ++ ((kCake kI kA co ca cv cr cg cw cV) ++ (kHist kI kA kC sh qo qa qv qr qg qw qV))) H := hP
    have hD : va_D A ((kRoot so co sh xo mo no djo ss sq) ++ ((kCake kI kA co ca cv cr cg cw cV) ++ (kHist kI kA kC sh qo qa qv qr qg qw qV))) := hD
    refine lv_if_ne (tgt := 21) hx hb dX6_give_16 (by decide) (fun c_4 => ?_) (fun c_4 => ?_)
    · have hw := hw.1 c_4
      refine lv_aload_n hx hb dX6_give_21 rfl (lv_at hl 0 rfl) ?_
      refine zcallV (ci := 6) (q0 := 0) (As := []) (rest := []) (wr := ([] : va_W)) (Wn := fun u => ((kRoot so co sh xo mo no djo u.1 u.2.1) ++ ((kCake kI kA co ca cv cr cg cw cV) ++ (kHist kI kA kC sh u.2.2.2.2.2.1 u.2.2.2.2.2.2.1 u.2.2.2.2.2.2.2.1 u.2.2.2.2.2.2.2.2 u.2.2.1 u.2.2.2.1 u.2.2.2.2.1)))) ⟨hx, hb, hml, hown, hts⟩ (c_X6_record l dC dI kI kA kC so co sh xo mo no djo ca cv cr qo qa qv qr _ ss sq cg cw cV qg qw qV _ hw) (cwV 0 hts gX6_give_X6_record rfl rfl rfl (by decide +kernel) ⟨Nat.le_of_ble_eq_true rfl, Nat.le_of_ble_eq_true rfl⟩) hK hP hD hS hA [0, 1, 2, 3, 4, 5, 6, 7, 8, 9, 10, 11, 12, 13, 14, 15, 16, 17, 18, 19, 20, 21, 22, 23, 24, 25, 26, 27, 28, 29, 30, 31, 32, 33, 34, 35, 36, 37, 38, 39, 40, 41, 42, 43] [] [0, 1, 2, 3, 4, 5, 6, 7, 8, 9, 10, 11, 12, 13, 14, 15, 16, 17, 18, 19, 20, 21, 22, 23, 24, 25, 26, 27, 28, 29, 30, 31, 32, 33, 34, 35, 36, 37, 38, 39, 40, 41, 42, 43] rfl rfl (by decide) (by decide) (by decide) (fun u => rfl) (by decide) rfl rfl rfl rfl hl.1 rfl (Nat.le_of_ble_eq_true rfl) dX6_give_22 ⟨Nat.zero_le _, Nat.zero_le _⟩ (fun u H locs hw hP hD hS => ?_)
      obtain ⟨ss_5, sq_6, qg_7, qw_8, qV_9, qo_10, qa_11, qv_12, qr_13⟩ := u
      have hP : va_P (dC, dI) vwCl ((kRoot so co sh xo mo no djo ss_5 sq_6) ++ ((kCake kI kA co ca cv cr cg cw cV) ++ (kHist kI kA kC sh qo_10 qa_11 qv_12 qr_13 qg_7 qw_8 qV_9))) H := hP
      have hD : va_D A ((kRoot so co sh xo mo no djo ss_5 sq_6) ++ ((kCake kI kA co ca cv cr cg cw cV) ++ (kHist kI kA kC sh qo_10 qa_11 qv_12 qr_13 qg_7 qw_8 qV_9))) := hD
      refine lv_aload_n hx hb dX6_give_25 rfl (lv_at hl 0 rfl) ?_
      refine va_get (D := (dC, dI)) (ci := 6) (v := .ref co) (C := RX6) (T := TX6) (N := 8) hx hb hts in_X6_give_X6 hown hK hP 0 rfl rfl 0 (by decide) (hts (.fieldLink RX6 10 "CakeMarks" "cake" "LCakeMarks$Cake;") (List.mem_of_getElem? (i := 1) rfl)) (fun _ h9 => h9) rfl dX6_give_26 ?_
      refine lv_iload_n hx hb dX6_give_29 rfl (lv_at hl 1 rfl) ?_
      refine lv_iload_n hx hb dX6_give_30 rfl (lv_at hl 2 rfl) ?_
      refine lv_iload_n hx hb dX6_give_31 rfl (lv_at hl 3 rfl) ?_
      refine zcallI (ci := 0) (q0 := 0) (As := [.int a1, .int a2, .int a3]) (rest := []) (wr := ((kRoot so co sh xo mo no djo ss_5 sq_6) ++ (kHist kI kA kC sh qo_10 qa_11 qv_12 qr_13 qg_7 qw_8 qV_9))) (Wn := fun u => ((kRoot so co sh xo mo no djo ss_5 sq_6) ++ ((kCake kI kA co ca cv cr cg u cV) ++ (kHist kI kA kC sh qo_10 qa_11 qv_12 qr_13 qg_7 qw_8 qV_9)))) ⟨hx, hb, hml, hown, hts⟩ (c_X0_handOut l dC dI kI kA kC co ca cv cr _ cg cw cV a1 a2 a3 _ hw) (cwV 3 hts gX6_give_X0_handOut rfl rfl rfl (by decide +kernel) ⟨Nat.le_of_ble_eq_true rfl, Nat.le_of_ble_eq_true rfl⟩) hK hP hD hS hA [1, 2, 3, 4, 5, 6, 7] [0, 8, 9, 10, 11, 12, 13, 14, 15, 16, 17, 18, 19, 20, 21, 22, 23, 24, 25, 26, 27, 28, 29, 30, 31, 32, 33, 34, 35, 36, 37, 38, 39, 40, 41, 42, 43] [0, 37, 38, 39, 40, 41, 42, 43, 1, 2, 3, 4, 5, 6, 7, 8, 9, 10, 11, 12, 13, 14, 15, 16, 17, 18, 19, 20, 21, 22, 23, 24, 25, 26, 27, 28, 29, 30, 31, 32, 33, 34, 35, 36] rfl rfl (by decide) (by decide) (by decide) (fun u => rfl) (by decide) rfl rfl rfl rfl hl.1 rfl (Nat.le_of_ble_eq_true rfl) dX6_give_32 ⟨Nat.zero_le _, Nat.zero_le _⟩ (fun r_15 cw_14 H locs hw hP hD hS => ?_)
      have hP : va_P (dC, dI) vwCl ((kRoot so co sh xo mo no djo ss_5 sq_6) ++ ((kCake kI kA co ca cv cr cg cw_14 cV) ++ (kHist kI kA kC sh qo_10 qa_11 qv_12 qr_13 qg_7 qw_8 qV_9))) H := hP
      have hD : va_D A ((kRoot so co sh xo mo no djo ss_5 sq_6) ++ ((kCake kI kA co ca cv cr cg cw_14 cV) ++ (kHist kI kA kC sh qo_10 qa_11 qv_12 qr_13 qg_7 qw_8 qV_9))) := hD
      exact hret 35 r_15 (ss_5, sq_6, cw_14, qg_7, qw_8, qV_9, qo_10, qa_11, qv_12, qr_13) _ _ _ (fun h => absurd h (by decide)) hw hP hD hS dX6_give_35
    · have hw := hw.2 c_4
      refine lv_iconst (v := (-1 : Int32)) hx hb dX6_give_19 (by decide) ?_
      exact hret 20 (-1 : Int32) (ss, sq, cw, qg, qw, qV, qo, qa, qv, qr) _ _ _ (fun h => absurd h (by decide)) hw hP hD hS dX6_give_20
-- CakeMarks.putBack(II)I
def Wp_X6_putBack (ss : Int32) (sq : Int32) (cg : Int32) (cw : Nat → Int32) (cV : Nat → Nat → Int32) (qg : Nat → Int32) (qw : Nat → Nat → Int32) (qV : Nat → Nat → Nat → Int32) (a1 : Int32) (a2 : Int32) (Z : Int32 → Int32 → Int32 → (Nat → Int32) → (Nat → Int32) → (Nat → Nat → Int32) → (Nat → Nat → Nat → Int32) → Prop) : Prop := (Wp_X6_isSpan a1 a2 (fun r_1 => ((¬ r_1 = (0 : Int32) → (Wp_X6_record ss sq cg cw cV qg qw qV (fun ss_3 sq_4 qg_5 qw_6 qV_7 => (Wp_X0_takeBack cw a1 a2 (fun r_13 cw_12 => (Z r_13 ss_3 sq_4 cw_12 qg_5 qw_6 qV_7)))))) ∧ (r_1 = (0 : Int32) → (Z (-1 : Int32) ss sq cw qg qw qV)))))
theorem in_X6_putBack_X6 : ∀ w ∈ u_ws RX6 TX6 8, w ∈ wsX6_putBack := fun w h => List.mem_cons_of_mem _ (List.mem_append_left _ (List.mem_append_right _ h))
set_option maxHeartbeats 20000000 in
set_option maxRecDepth 100000 in
theorem c_X6_putBack (l : Launch) (dC : Nat → ClassId) (dI : Nat → Nat → Nat) (kI kA kC : ClassId) (so : Nat) (co : Nat) (sh : Nat) (xo : Nat) (mo : Nat) (no : Nat) (djo : Nat) (ca : Nat) (cv : Nat) (cr : Nat → Nat) (qo : Nat → Nat) (qa : Nat → Nat) (qv : Nat → Nat) (qr : Nat → Nat → Nat) (sz : Nat) (ss : Int32) (sq : Int32) (cg : Int32) (cw : Nat → Int32) (cV : Nat → Nat → Int32) (qg : Nat → Int32) (qw : Nat → Nat → Int32) (qV : Nat → Nat → Nat → Int32) (a1 : Int32) (a2 : Int32) (Z : Int32 → Int32 → Int32 → (Nat → Int32) → (Nat → Int32) → (Nat → Nat → Int32) → (Nat → Nat → Nat → Int32) → Prop) (hw : Wp_X6_putBack ss sq cg cw cV qg qw qV a1 a2 Z) : zI l yX6_putBack wsX6_putBack ({ frames := 4, cells := 0, slots := 0, locals := 94 }) dC dI kI kA kC sz 0 0 [.ref so, .int a1, .int a2] ((kRoot so co sh xo mo no djo ss sq) ++ ((kCake kI kA co ca cv cr cg cw cV) ++ (kHist kI kA kC sh qo qa qv qr qg qw qV))) (fun (r : Int32) (u : Int32 × Int32 × (Nat → Int32) × (Nat → Int32) × (Nat → Nat → Int32) × (Nat → Nat → Nat → Int32) × (Nat → Nat) × (Nat → Nat) × (Nat → Nat) × (Nat → Nat → Nat)) => Z r u.1 u.2.1 u.2.2.1 u.2.2.2.1 u.2.2.2.2.1 u.2.2.2.2.2.1) (fun (u : Int32 × Int32 × (Nat → Int32) × (Nat → Int32) × (Nat → Nat → Int32) × (Nat → Nat → Nat → Int32) × (Nat → Nat) × (Nat → Nat) × (Nat → Nat) × (Nat → Nat → Nat)) => ((kRoot so co sh xo mo no djo u.1 u.2.1) ++ ((kCake kI kA co ca cv cr cg u.2.2.1 cV) ++ (kHist kI kA kC sh u.2.2.2.2.2.2.1 u.2.2.2.2.2.2.2.1 u.2.2.2.2.2.2.2.2.1 u.2.2.2.2.2.2.2.2.2 u.2.2.2.1 u.2.2.2.2.1 u.2.2.2.2.2.1)))) := by
  refine zI.of (cc := cX6_putBack) (maxL := 3) (ty := .int) (by decide) rfl (Nat.le_of_ble_eq_true rfl) (Or.inl rfl) ?_
  intro p e s m args below meth c A Q C0 hret ls hl
  obtain ⟨hx, hb, hr, hml, hts, hown, hin, hP, hK, hD, hA, hS⟩ := C0
  have hown : s.vm.findClass RX6 = some m.cls := hown
  have hl : lv_has ls 3 [(0, .ref so), (1, .int a1), (2, .int a2)] := hl
  unfold Wp_X6_putBack at hw
  refine lv_iload_n hx hb dX6_putBack_0 rfl (lv_at hl 1 rfl) ?_
  refine lv_iload_n hx hb dX6_putBack_1 rfl (lv_at hl 2 rfl) ?_
  refine zcallS (As := [.int a1, .int a2]) (rest := []) (wr := ((kRoot so co sh xo mo no djo ss sq) ++ ((kCake kI kA co ca cv cr cg cw cV) ++ (kHist kI kA kC sh qo qa qv qr qg qw qV)))) (Wn := fun u => ((kRoot so co sh xo mo no djo ss sq) ++ ((kCake kI kA co ca cv cr cg cw cV) ++ (kHist kI kA kC sh qo qa qv qr qg qw qV)))) ⟨hx, hb, hml, hown, hts⟩ (c_X6_isSpan l dC dI kI kA kC _ a1 a2 _ hw) (va_cwS 2 hts gX6_putBack_X6_isSpan rfl rfl rfl (by decide +kernel) ⟨Nat.le_of_ble_eq_true rfl, Nat.le_of_ble_eq_true rfl⟩) hK hP hD hS hA [] [0, 1, 2, 3, 4, 5, 6, 7, 8, 9, 10, 11, 12, 13, 14, 15, 16, 17, 18, 19, 20, 21, 22, 23, 24, 25, 26, 27, 28, 29, 30, 31, 32, 33, 34, 35, 36, 37, 38, 39, 40, 41, 42, 43] [0, 1, 2, 3, 4, 5, 6, 7, 8, 9, 10, 11, 12, 13, 14, 15, 16, 17, 18, 19, 20, 21, 22, 23, 24, 25, 26, 27, 28, 29, 30, 31, 32, 33, 34, 35, 36, 37, 38, 39, 40, 41, 42, 43] rfl rfl (by decide) (by decide) (by decide) (fun u => rfl) (by decide) rfl hl.1 rfl (Nat.le_of_ble_eq_true rfl) dX6_putBack_2 ⟨Nat.zero_le _, Nat.zero_le _⟩ (fun r_1 u H locs hw hP hD hS => ?_)
  have hP : va_P (dC, dI) vwCl ((kRoot so co sh xo mo no djo ss sq) ++ ((kCake kI kA co ca cv cr cg cw cV) ++ (kHist kI kA kC sh qo qa qv qr qg qw qV))) H := hP
  have hD : va_D A ((kRoot so co sh xo mo no djo ss sq) ++ ((kCake kI kA co ca cv cr cg cw cV) ++ (kHist kI kA kC sh qo qa qv qr qg qw qV))) := hD
  refine lv_if_ne (tgt := 10) hx hb dX6_putBack_5 (by decide) (fun c_2 => ?_) (fun c_2 => ?_)
  · have hw := hw.1 c_2
    refine lv_aload_n hx hb dX6_putBack_10 rfl (lv_at hl 0 rfl) ?_
    refine zcallV (ci := 6) (q0 := 0) (As := []) (rest := []) (wr := ([] : va_W)) (Wn := fun u => ((kRoot so co sh xo mo no djo u.1 u.2.1) ++ ((kCake kI kA co ca cv cr cg cw cV) ++ (kHist kI kA kC sh u.2.2.2.2.2.1 u.2.2.2.2.2.2.1 u.2.2.2.2.2.2.2.1 u.2.2.2.2.2.2.2.2 u.2.2.1 u.2.2.2.1 u.2.2.2.2.1)))) ⟨hx, hb, hml, hown, hts⟩ (c_X6_record l dC dI kI kA kC so co sh xo mo no djo ca cv cr qo qa qv qr _ ss sq cg cw cV qg qw qV _ hw) (cwV 0 hts gX6_putBack_X6_record rfl rfl rfl (by decide +kernel) ⟨Nat.le_of_ble_eq_true rfl, Nat.le_of_ble_eq_true rfl⟩) hK hP hD hS hA [0, 1, 2, 3, 4, 5, 6, 7, 8, 9, 10, 11, 12, 13, 14, 15, 16, 17, 18, 19, 20, 21, 22, 23, 24, 25, 26, 27, 28, 29, 30, 31, 32, 33, 34, 35, 36, 37, 38, 39, 40, 41, 42, 43] [] [0, 1, 2, 3, 4, 5, 6, 7, 8, 9, 10, 11, 12, 13, 14, 15, 16, 17, 18, 19, 20, 21, 22, 23, 24, 25, 26, 27, 28, 29, 30, 31, 32, 33, 34, 35, 36, 37, 38, 39, 40, 41, 42, 43] rfl rfl (by decide) (by decide) (by decide) (fun u => rfl) (by decide) rfl rfl rfl rfl hl.1 rfl (Nat.le_of_ble_eq_true rfl) dX6_putBack_11 ⟨Nat.zero_le _, Nat.zero_le _⟩ (fun u H locs hw hP hD hS => ?_)
    obtain ⟨ss_3, sq_4, qg_5, qw_6, qV_7, qo_8, qa_9, qv_10, qr_11⟩ := u
    have hP : va_P (dC, dI) vwCl ((kRoot so co sh xo mo no djo ss_3 sq_4) ++ ((kCake kI kA co ca cv cr cg cw cV) ++ (kHist kI kA kC sh qo_8 qa_9 qv_10 qr_11 qg_5 qw_6 qV_7))) H := hP
    have hD : va_D A ((kRoot so co sh xo mo no djo ss_3 sq_4) ++ ((kCake kI kA co ca cv cr cg cw cV) ++ (kHist kI kA kC sh qo_8 qa_9 qv_10 qr_11 qg_5 qw_6 qV_7))) := hD
    refine lv_aload_n hx hb dX6_putBack_14 rfl (lv_at hl 0 rfl) ?_
    refine va_get (D := (dC, dI)) (ci := 6) (v := .ref co) (C := RX6) (T := TX6) (N := 8) hx hb hts in_X6_putBack_X6 hown hK hP 0 rfl rfl 0 (by decide) (hts (.fieldLink RX6 10 "CakeMarks" "cake" "LCakeMarks$Cake;") (List.mem_of_getElem? (i := 1) rfl)) (fun _ h9 => h9) rfl dX6_putBack_15 ?_
    refine lv_iload_n hx hb dX6_putBack_18 rfl (lv_at hl 1 rfl) ?_
    refine lv_iload_n hx hb dX6_putBack_19 rfl (lv_at hl 2 rfl) ?_
    refine zcallI (ci := 0) (q0 := 0) (As := [.int a1, .int a2]) (rest := []) (wr := ((kRoot so co sh xo mo no djo ss_3 sq_4) ++ (kHist kI kA kC sh qo_8 qa_9 qv_10 qr_11 qg_5 qw_6 qV_7))) (Wn := fun u => ((kRoot so co sh xo mo no djo ss_3 sq_4) ++ ((kCake kI kA co ca cv cr cg u cV) ++ (kHist kI kA kC sh qo_8 qa_9 qv_10 qr_11 qg_5 qw_6 qV_7)))) ⟨hx, hb, hml, hown, hts⟩ (c_X0_takeBack l dC dI kI kA kC co ca cv cr _ cg cw cV a1 a2 _ hw) (cwV 2 hts gX6_putBack_X0_takeBack rfl rfl rfl (by decide +kernel) ⟨Nat.le_of_ble_eq_true rfl, Nat.le_of_ble_eq_true rfl⟩) hK hP hD hS hA [1, 2, 3, 4, 5, 6, 7] [0, 8, 9, 10, 11, 12, 13, 14, 15, 16, 17, 18, 19, 20, 21, 22, 23, 24, 25, 26, 27, 28, 29, 30, 31, 32, 33, 34, 35, 36, 37, 38, 39, 40, 41, 42, 43] [0, 37, 38, 39, 40, 41, 42, 43, 1, 2, 3, 4, 5, 6, 7, 8, 9, 10, 11, 12, 13, 14, 15, 16, 17, 18, 19, 20, 21, 22, 23, 24, 25, 26, 27, 28, 29, 30, 31, 32, 33, 34, 35, 36] rfl rfl (by decide) (by decide) (by decide) (fun u => rfl) (by decide) rfl rfl rfl rfl hl.1 rfl (Nat.le_of_ble_eq_true rfl) dX6_putBack_20 ⟨Nat.zero_le _, Nat.zero_le _⟩ (fun r_13 cw_12 H locs hw hP hD hS => ?_)
    have hP : va_P (dC, dI) vwCl ((kRoot so co sh xo mo no djo ss_3 sq_4) ++ ((kCake kI kA co ca cv cr cg cw_12 cV) ++ (kHist kI kA kC sh qo_8 qa_9 qv_10 qr_11 qg_5 qw_6 qV_7))) H := hP
    have hD : va_D A ((kRoot so co sh xo mo no djo ss_3 sq_4) ++ ((kCake kI kA co ca cv cr cg cw_12 cV) ++ (kHist kI kA kC sh qo_8 qa_9 qv_10 qr_11 qg_5 qw_6 qV_7))) := hD
    exact hret 23 r_13 (ss_3, sq_4, cw_12, qg_5, qw_6, qV_7, qo_8, qa_9, qv_10, qr_11) _ _ _ (fun h => absurd h (by decide)) hw hP hD hS dX6_putBack_23
  · have hw := hw.2 c_2
    refine lv_iconst (v := (-1 : Int32)) hx hb dX6_putBack_8 (by decide) ?_
    exact hret 9 (-1 : Int32) (ss, sq, cw, qg, qw, qV, qo, qa, qv, qr) _ _ _ (fun h => absurd h (by decide)) hw hP hD hS dX6_putBack_9
-- CakeMarks.isMove(II)Z
def Wp_X6_isMove (cg : Int32) (a1 : Int32) (a2 : Int32) (Z : Int32 → Prop) : Prop := ((a1 < (1 : Int32) → (Z (0 : Int32))) ∧ (¬ a1 < (1 : Int32) → (((100 : Int32) < a1 → (Z (0 : Int32))) ∧ (¬ (100 : Int32) < a1 → ((a2 < (1 : Int32) → (Z (0 : Int32))) ∧ (¬ a2 < (1 : Int32) → ((((1 : Int32) <<< (cg &&& 31)) ≤ a2 → (Z (0 : Int32))) ∧ (¬ ((1 : Int32) <<< (cg &&& 31)) ≤ a2 → (Z (1 : Int32))))))))))
theorem in_X6_isMove_X0 : ∀ w ∈ u_ws RX0 TX0 3, w ∈ wsX6_isMove := fun w h => List.mem_cons_of_mem _ (List.mem_append_right _ h)
theorem in_X6_isMove_X6 : ∀ w ∈ u_ws RX6 TX6 8, w ∈ wsX6_isMove := fun w h => List.mem_cons_of_mem _ (List.mem_append_left _ (List.mem_append_right _ h))
set_option maxHeartbeats 20000000 in
set_option maxRecDepth 100000 in
theorem c_X6_isMove (l : Launch) (dC : Nat → ClassId) (dI : Nat → Nat → Nat) (kI kA kC : ClassId) (so : Nat) (co : Nat) (sh : Nat) (xo : Nat) (mo : Nat) (no : Nat) (djo : Nat) (ca : Nat) (cv : Nat) (cr : Nat → Nat) (sz : Nat) (ss : Int32) (sq : Int32) (cg : Int32) (cw : Nat → Int32) (cV : Nat → Nat → Int32) (a1 : Int32) (a2 : Int32) (Z : Int32 → Prop) (hw : Wp_X6_isMove cg a1 a2 Z) : zI l yX6_isMove wsX6_isMove ({ frames := 0, cells := 0, slots := 0, locals := 0 }) dC dI kI kA kC sz 0 0 [.ref so, .int a1, .int a2] ((kRoot so co sh xo mo no djo ss sq) ++ (kCake kI kA co ca cv cr cg cw cV)) (fun (r : Int32) (u : Unit) => Z r ) (fun (u : Unit) => ((kRoot so co sh xo mo no djo ss sq) ++ (kCake kI kA co ca cv cr cg cw cV))) := by
  refine zI.of (cc := cX6_isMove) (maxL := 3) (ty := .boolean) (by decide) rfl (Nat.le_of_ble_eq_true rfl) (Or.inr rfl) ?_
  intro p e s m args below meth c A Q C0 hret ls hl
  obtain ⟨hx, hb, hr, hml, hts, hown, hin, hP, hK, hD, hA, hS⟩ := C0
  have hown : s.vm.findClass RX6 = some m.cls := hown
  have hl : lv_has ls 3 [(0, .ref so), (1, .int a1), (2, .int a2)] := hl
  unfold Wp_X6_isMove at hw
  refine lv_iload_n hx hb dX6_isMove_0 rfl (lv_at hl 1 rfl) ?_
  refine lv_iconst (v := (1 : Int32)) hx hb dX6_isMove_1 (by decide) ?_
  refine lv_icmp_lt (tgt := 33) hx hb dX6_isMove_2 (by decide) (fun c_1 => ?_) (fun c_1 => ?_)
  · have hw := hw.1 c_1
    refine lv_iconst (v := (0 : Int32)) hx hb dX6_isMove_33 (by decide) ?_
    exact hret 34 (0 : Int32) () _ _ _ (fun _ => rfl) hw hP hD hS dX6_isMove_34
  · have hw := hw.2 c_1
    refine lv_iload_n hx hb dX6_isMove_5 rfl (lv_at hl 1 rfl) ?_
    refine lv_bipush (v := (100 : Int32)) hx hb dX6_isMove_6 (by decide) ?_
    refine lv_icmp_gt (tgt := 33) hx hb dX6_isMove_8 (by decide) (fun c_2 => ?_) (fun c_2 => ?_)
    · have hw := hw.1 c_2
      refine lv_iconst (v := (0 : Int32)) hx hb dX6_isMove_33 (by decide) ?_
      exact hret 34 (0 : Int32) () _ _ _ (fun _ => rfl) hw hP hD hS dX6_isMove_34
    · have hw := hw.2 c_2
      refine lv_iload_n hx hb dX6_isMove_11 rfl (lv_at hl 2 rfl) ?_
      refine lv_iconst (v := (1 : Int32)) hx hb dX6_isMove_12 (by decide) ?_
      refine lv_icmp_lt (tgt := 33) hx hb dX6_isMove_13 (by decide) (fun c_3 => ?_) (fun c_3 => ?_)
      · have hw := hw.1 c_3
        refine lv_iconst (v := (0 : Int32)) hx hb dX6_isMove_33 (by decide) ?_
        exact hret 34 (0 : Int32) () _ _ _ (fun _ => rfl) hw hP hD hS dX6_isMove_34
      · have hw := hw.2 c_3
        refine lv_iload_n hx hb dX6_isMove_16 rfl (lv_at hl 2 rfl) ?_
        refine lv_iconst (v := (1 : Int32)) hx hb dX6_isMove_17 (by decide) ?_
        refine lv_aload_n hx hb dX6_isMove_18 rfl (lv_at hl 0 rfl) ?_
        refine va_get (D := (dC, dI)) (ci := 6) (v := .ref co) (C := RX6) (T := TX6) (N := 8) hx hb hts in_X6_isMove_X6 hown hK hP 0 rfl rfl 0 (by decide) (hts (.fieldLink RX6 10 "CakeMarks" "cake" "LCakeMarks$Cake;") (List.mem_of_getElem? (i := 1) rfl)) (fun _ h9 => h9) rfl dX6_isMove_19 ?_
        refine va_get (D := (dC, dI)) (ci := 0) (v := .int cg) (C := RX0) (T := TX0) (N := 3) hx hb hts in_X6_isMove_X0 hown hK hP 1 rfl rfl 0 (by decide) (hts (.fieldLink RX6 56 "CakeMarks$Cake" "guests" "I") (List.mem_of_getElem? (i := 2) rfl)) (fun _ h9 => h9) rfl dX6_isMove_22 ?_
        refine lv_ishl hx hb dX6_isMove_25 ?_
        refine lv_icmp_ge (tgt := 33) hx hb dX6_isMove_26 (by decide) (fun c_4 => ?_) (fun c_4 => ?_)
        · have hw := hw.1 c_4
          refine lv_iconst (v := (0 : Int32)) hx hb dX6_isMove_33 (by decide) ?_
          exact hret 34 (0 : Int32) () _ _ _ (fun _ => rfl) hw hP hD hS dX6_isMove_34
        · have hw := hw.2 c_4
          refine lv_iconst (v := (1 : Int32)) hx hb dX6_isMove_29 (by decide) ?_
          refine lv_goto (tgt := 34) hx hb dX6_isMove_30 (by decide) ?_
          exact hret 34 (1 : Int32) () _ _ _ (fun _ => rfl) hw hP hD hS dX6_isMove_34
-- CakeMarks.move(II)I
def Wp_X6_move (ss : Int32) (sq : Int32) (cg : Int32) (cw : Nat → Int32) (cV : Nat → Nat → Int32) (qg : Nat → Int32) (qw : Nat → Nat → Int32) (qV : Nat → Nat → Nat → Int32) (mw : Nat → Int32) (a1 : Int32) (a2 : Int32) (Z : Int32 → Int32 → Int32 → (Nat → Int32) → (Nat → Int32) → (Nat → Nat → Int32) → (Nat → Nat → Nat → Int32) → (Nat → Int32) → Prop) : Prop := (Wp_X6_isMove cg a1 a2 (fun r_1 => ((¬ r_1 = (0 : Int32) → (Wp_X6_record ss sq cg cw cV qg qw qV (fun ss_3 sq_4 qg_5 qw_6 qV_7 => (Wp_X2_pass mw cg cw cV a1 a2 (fun r_13 mw_12 => (Wp_X0_takeOwners cw mw_12 (fun cw_14 => (Z r_13 ss_3 sq_4 cw_14 qg_5 qw_6 qV_7 mw_12)))))))) ∧ (r_1 = (0 : Int32) → (Z (-1 : Int32) ss sq cw qg qw qV mw)))))
theorem in_X6_move_X2 : ∀ w ∈ u_ws RX2 TX2 1, w ∈ wsX6_move := fun w h => List.mem_cons_of_mem _ (List.mem_append_left _ (List.mem_append_right _ h))
theorem in_X6_move_X6 : ∀ w ∈ u_ws RX6 TX6 8, w ∈ wsX6_move := fun w h => List.mem_cons_of_mem _ (List.mem_append_left _ (List.mem_append_left _ (List.mem_append_right _ h)))
set_option maxHeartbeats 20000000 in
set_option maxRecDepth 100000 in
theorem c_X6_move (l : Launch) (dC : Nat → ClassId) (dI : Nat → Nat → Nat) (kI kA kC : ClassId) (so : Nat) (co : Nat) (sh : Nat) (xo : Nat) (mo : Nat) (no : Nat) (djo : Nat) (ca : Nat) (cv : Nat) (cr : Nat → Nat) (qo : Nat → Nat) (qa : Nat → Nat) (qv : Nat → Nat) (qr : Nat → Nat → Nat) (ma : Nat) (sz : Nat) (ss : Int32) (sq : Int32) (cg : Int32) (cw : Nat → Int32) (cV : Nat → Nat → Int32) (qg : Nat → Int32) (qw : Nat → Nat → Int32) (qV : Nat → Nat → Nat → Int32) (mw : Nat → Int32) (a1 : Int32) (a2 : Int32) (Z : Int32 → Int32 → Int32 → (Nat → Int32) → (Nat → Int32) → (Nat → Nat → Int32) → (Nat → Nat → Nat → Int32) → (Nat → Int32) → Prop) (hw : Wp_X6_move ss sq cg cw cV qg qw qV mw a1 a2 Z) : zI l yX6_move wsX6_move ({ frames := 4, cells := 0, slots := 0, locals := 100 }) dC dI kI kA kC sz 0 0 [.ref so, .int a1, .int a2] ((kRoot so co sh xo mo no djo ss sq) ++ ((kCake kI kA co ca cv cr cg cw cV) ++ ((kHist kI kA kC sh qo qa qv qr qg qw qV) ++ (kMark kI mo ma mw)))) (fun (r : Int32) (u : Int32 × Int32 × (Nat → Int32) × (Nat → Int32) × (Nat → Nat → Int32) × (Nat → Nat → Nat → Int32) × (Nat → Int32) × (Nat → Nat) × (Nat → Nat) × (Nat → Nat) × (Nat → Nat → Nat)) => Z r u.1 u.2.1 u.2.2.1 u.2.2.2.1 u.2.2.2.2.1 u.2.2.2.2.2.1 u.2.2.2.2.2.2.1) (fun (u : Int32 × Int32 × (Nat → Int32) × (Nat → Int32) × (Nat → Nat → Int32) × (Nat → Nat → Nat → Int32) × (Nat → Int32) × (Nat → Nat) × (Nat → Nat) × (Nat → Nat) × (Nat → Nat → Nat)) => ((kRoot so co sh xo mo no djo u.1 u.2.1) ++ ((kCake kI kA co ca cv cr cg u.2.2.1 cV) ++ ((kHist kI kA kC sh u.2.2.2.2.2.2.2.1 u.2.2.2.2.2.2.2.2.1 u.2.2.2.2.2.2.2.2.2.1 u.2.2.2.2.2.2.2.2.2.2 u.2.2.2.1 u.2.2.2.2.1 u.2.2.2.2.2.1) ++ (kMark kI mo ma u.2.2.2.2.2.2.1))))) := by
  refine zI.of (cc := cX6_move) (maxL := 4) (ty := .int) (by decide) rfl (Nat.le_of_ble_eq_true rfl) (Or.inl rfl) ?_
  intro p e s m args below meth c A Q C0 hret ls hl
  obtain ⟨hx, hb, hr, hml, hts, hown, hin, hP, hK, hD, hA, hS⟩ := C0
  have hown : s.vm.findClass RX6 = some m.cls := hown
  have hl : lv_has ls 4 [(0, .ref so), (1, .int a1), (2, .int a2)] := hl
  unfold Wp_X6_move at hw
  refine lv_aload_n hx hb dX6_move_0 rfl (lv_at hl 0 rfl) ?_
  refine lv_iload_n hx hb dX6_move_1 rfl (lv_at hl 1 rfl) ?_
  refine lv_iload_n hx hb dX6_move_2 rfl (lv_at hl 2 rfl) ?_
  refine zcallI (ci := 6) (q0 := 0) (As := [.int a1, .int a2]) (rest := []) (wr := ((kHist kI kA kC sh qo qa qv qr qg qw qV) ++ (kMark kI mo ma mw))) (Wn := fun u => ((kRoot so co sh xo mo no djo ss sq) ++ ((kCake kI kA co ca cv cr cg cw cV) ++ ((kHist kI kA kC sh qo qa qv qr qg qw qV) ++ (kMark kI mo ma mw))))) ⟨hx, hb, hml, hown, hts⟩ (c_X6_isMove l dC dI kI kA kC so co sh xo mo no djo ca cv cr _ ss sq cg cw cV a1 a2 _ hw) (cwV 2 hts gX6_move_X6_isMove rfl rfl rfl (by decide +kernel) ⟨Nat.le_of_ble_eq_true rfl, Nat.le_of_ble_eq_true rfl⟩) hK hP hD hS hA [0, 1, 2, 3, 4, 5, 6, 7] [8, 9, 10, 11, 12, 13, 14, 15, 16, 17, 18, 19, 20, 21, 22, 23, 24, 25, 26, 27, 28, 29, 30, 31, 32, 33, 34, 35, 36, 37, 38, 39, 40, 41, 42, 43, 44, 45] [38, 39, 40, 41, 42, 43, 44, 45, 0, 1, 2, 3, 4, 5, 6, 7, 8, 9, 10, 11, 12, 13, 14, 15, 16, 17, 18, 19, 20, 21, 22, 23, 24, 25, 26, 27, 28, 29, 30, 31, 32, 33, 34, 35, 36, 37] rfl rfl (by decide) (by decide) (by decide) (fun u => rfl) (by decide) rfl rfl rfl rfl hl.1 rfl (Nat.le_of_ble_eq_true rfl) dX6_move_3 ⟨Nat.zero_le _, Nat.zero_le _⟩ (fun r_1 u H locs hw hP hD hS => ?_)
  have hP : va_P (dC, dI) vwCl ((kRoot so co sh xo mo no djo ss sq) ++ ((kCake kI kA co ca cv cr cg cw cV) ++ ((kHist kI kA kC sh qo qa qv qr qg qw qV) ++ (kMark kI mo ma mw)))) H := hP
  have hD : va_D A ((kRoot so co sh xo mo no djo ss sq) ++ ((kCake kI kA co ca cv cr cg cw cV) ++ ((kHist kI kA kC sh qo qa qv qr qg qw qV) ++ (kMark kI mo ma mw)))) := hD
  refine lv_if_ne (tgt := 11) hx hb dX6_move_6 (by decide) (fun c_2 => ?_) (fun c_2 => ?_)
  · have hw := hw.1 c_2
    refine lv_aload_n hx hb dX6_move_11 rfl (lv_at hl 0 rfl) ?_
    refine zcallV (ci := 6) (q0 := 0) (As := []) (rest := []) (wr := (kMark kI mo ma mw)) (Wn := fun u => ((kRoot so co sh xo mo no djo u.1 u.2.1) ++ ((kCake kI kA co ca cv cr cg cw cV) ++ ((kHist kI kA kC sh u.2.2.2.2.2.1 u.2.2.2.2.2.2.1 u.2.2.2.2.2.2.2.1 u.2.2.2.2.2.2.2.2 u.2.2.1 u.2.2.2.1 u.2.2.2.2.1) ++ (kMark kI mo ma mw))))) ⟨hx, hb, hml, hown, hts⟩ (c_X6_record l dC dI kI kA kC so co sh xo mo no djo ca cv cr qo qa qv qr _ ss sq cg cw cV qg qw qV _ hw) (cwV 0 hts gX6_move_X6_record rfl rfl rfl (by decide +kernel) ⟨Nat.le_of_ble_eq_true rfl, Nat.le_of_ble_eq_true rfl⟩) hK hP hD hS hA [0, 1, 2, 3, 4, 5, 6, 7, 8, 9, 10, 11, 12, 13, 14, 15, 16, 17, 18, 19, 20, 21, 22, 23, 24, 25, 26, 27, 28, 29, 30, 31, 32, 33, 34, 35, 36, 37, 38, 39, 40, 41, 42, 43] [44, 45] [2, 3, 4, 5, 6, 7, 8, 9, 10, 11, 12, 13, 14, 15, 16, 17, 18, 19, 20, 21, 22, 23, 24, 25, 26, 27, 28, 29, 30, 31, 32, 33, 34, 35, 36, 37, 38, 39, 40, 41, 42, 43, 44, 45, 0, 1] rfl rfl (by decide) (by decide) (by decide) (fun u => rfl) (by decide) rfl rfl rfl rfl hl.1 rfl (Nat.le_of_ble_eq_true rfl) dX6_move_12 ⟨Nat.zero_le _, Nat.zero_le _⟩ (fun u H locs hw hP hD hS => ?_)
    obtain ⟨ss_3, sq_4, qg_5, qw_6, qV_7, qo_8, qa_9, qv_10, qr_11⟩ := u
    have hP : va_P (dC, dI) vwCl ((kRoot so co sh xo mo no djo ss_3 sq_4) ++ ((kCake kI kA co ca cv cr cg cw cV) ++ ((kHist kI kA kC sh qo_8 qa_9 qv_10 qr_11 qg_5 qw_6 qV_7) ++ (kMark kI mo ma mw)))) H := hP
    have hD : va_D A ((kRoot so co sh xo mo no djo ss_3 sq_4) ++ ((kCake kI kA co ca cv cr cg cw cV) ++ ((kHist kI kA kC sh qo_8 qa_9 qv_10 qr_11 qg_5 qw_6 qV_7) ++ (kMark kI mo ma mw)))) := hD
    refine lv_aload_n hx hb dX6_move_15 rfl (lv_at hl 0 rfl) ?_
    refine va_get (D := (dC, dI)) (ci := 6) (v := .ref mo) (C := RX6) (T := TX6) (N := 8) hx hb hts in_X6_move_X6 hown hK hP 0 rfl rfl 4 (by decide) (hts (.fieldLink RX6 34 "CakeMarks" "mark" "LCakeMarks$Mark;") (List.mem_of_getElem? (i := 1) rfl)) (fun _ h9 => h9) rfl dX6_move_16 ?_
    refine lv_aload_n hx hb dX6_move_19 rfl (lv_at hl 0 rfl) ?_
    refine va_get (D := (dC, dI)) (ci := 6) (v := .ref co) (C := RX6) (T := TX6) (N := 8) hx hb hts in_X6_move_X6 hown hK hP 0 rfl rfl 0 (by decide) (hts (.fieldLink RX6 10 "CakeMarks" "cake" "LCakeMarks$Cake;") (List.mem_of_getElem? (i := 2) rfl)) (fun _ h9 => h9) rfl dX6_move_20 ?_
    refine lv_iload_n hx hb dX6_move_23 rfl (lv_at hl 1 rfl) ?_
    refine lv_iload_n hx hb dX6_move_24 rfl (lv_at hl 2 rfl) ?_
    refine zcallI (ci := 2) (q0 := 0) (As := [.ref co, .int a1, .int a2]) (rest := []) (wr := ((kRoot so co sh xo mo no djo ss_3 sq_4) ++ (kHist kI kA kC sh qo_8 qa_9 qv_10 qr_11 qg_5 qw_6 qV_7))) (Wn := fun u => ((kRoot so co sh xo mo no djo ss_3 sq_4) ++ ((kCake kI kA co ca cv cr cg cw cV) ++ ((kHist kI kA kC sh qo_8 qa_9 qv_10 qr_11 qg_5 qw_6 qV_7) ++ (kMark kI mo ma u))))) ⟨hx, hb, hml, hown, hts⟩ (c_X2_pass l dC dI kI kA kC mo ma co ca cv cr _ mw cg cw cV a1 a2 _ hw) (cwV 3 hts gX6_move_X2_pass rfl rfl rfl (by decide +kernel) ⟨Nat.le_of_ble_eq_true rfl, Nat.le_of_ble_eq_true rfl⟩) hK hP hD hS hA [44, 45, 1, 2, 3, 4, 5, 6, 7] [0, 8, 9, 10, 11, 12, 13, 14, 15, 16, 17, 18, 19, 20, 21, 22, 23, 24, 25, 26, 27, 28, 29, 30, 31, 32, 33, 34, 35, 36, 37, 38, 39, 40, 41, 42, 43] [0, 39, 40, 41, 42, 43, 44, 45, 1, 2, 3, 4, 5, 6, 7, 8, 9, 10, 11, 12, 13, 14, 15, 16, 17, 18, 19, 20, 21, 22, 23, 24, 25, 26, 27, 28, 29, 30, 31, 32, 33, 34, 35, 36, 37, 38] rfl rfl (by decide) (by decide) (by decide) (fun u => rfl) (by decide) rfl rfl rfl rfl hl.1 rfl (Nat.le_of_ble_eq_true rfl) dX6_move_25 ⟨Nat.zero_le _, Nat.zero_le _⟩ (fun r_13 mw_12 H locs hw hP hD hS => ?_)
    have hP : va_P (dC, dI) vwCl ((kRoot so co sh xo mo no djo ss_3 sq_4) ++ ((kCake kI kA co ca cv cr cg cw cV) ++ ((kHist kI kA kC sh qo_8 qa_9 qv_10 qr_11 qg_5 qw_6 qV_7) ++ (kMark kI mo ma mw_12)))) H := hP
    have hD : va_D A ((kRoot so co sh xo mo no djo ss_3 sq_4) ++ ((kCake kI kA co ca cv cr cg cw cV) ++ ((kHist kI kA kC sh qo_8 qa_9 qv_10 qr_11 qg_5 qw_6 qV_7) ++ (kMark kI mo ma mw_12)))) := hD
    refine lv_istore_n (lv' := [(3, .int r_13), (0, .ref so), (1, .int a1), (2, .int a2)]) hx hb dX6_move_28 rfl hl (by decide) rfl (fun ls hl => ?_)
    refine lv_aload_n hx hb dX6_move_29 rfl (lv_at hl 1 rfl) ?_
    refine va_get (D := (dC, dI)) (ci := 6) (v := .ref co) (C := RX6) (T := TX6) (N := 8) hx hb hts in_X6_move_X6 hown hK hP 0 rfl rfl 0 (by decide) (hts (.fieldLink RX6 10 "CakeMarks" "cake" "LCakeMarks$Cake;") (List.mem_of_getElem? (i := 2) rfl)) (fun _ h9 => h9) rfl dX6_move_30 ?_
    refine lv_aload_n hx hb dX6_move_33 rfl (lv_at hl 1 rfl) ?_
    refine va_get (D := (dC, dI)) (ci := 6) (v := .ref mo) (C := RX6) (T := TX6) (N := 8) hx hb hts in_X6_move_X6 hown hK hP 0 rfl rfl 4 (by decide) (hts (.fieldLink RX6 34 "CakeMarks" "mark" "LCakeMarks$Mark;") (List.mem_of_getElem? (i := 1) rfl)) (fun _ h9 => h9) rfl dX6_move_34 ?_
    refine va_get (D := (dC, dI)) (ci := 2) (v := .ref ma) (C := RX2) (T := TX2) (N := 1) hx hb hts in_X6_move_X2 hown hK hP 44 rfl rfl 0 (by decide) (hts (.fieldLink RX6 114 "CakeMarks$Mark" "owner" "[I") (List.mem_of_getElem? (i := 3) rfl)) (fun _ h9 => h9) rfl dX6_move_37 ?_
    refine zcallV (ci := 0) (q0 := 0) (As := [.ref ma]) (rest := []) (wr := (((kRoot so co sh xo mo no djo ss_3 sq_4) ++ ((kHist kI kA kC sh qo_8 qa_9 qv_10 qr_11 qg_5 qw_6 qV_7) ++ [(mo, .inr (2, [.ref ma]))])) : va_W)) (Wn := fun u => ((kRoot so co sh xo mo no djo ss_3 sq_4) ++ ((kCake kI kA co ca cv cr cg u cV) ++ ((kHist kI kA kC sh qo_8 qa_9 qv_10 qr_11 qg_5 qw_6 qV_7) ++ (kMark kI mo ma mw_12))))) ⟨hx, hb, hml, hown, hts⟩ (c_X0_takeOwners l dC dI kI kA kC co ca cv cr ma _ cg cw cV mw_12 _ hw) (cwV 1 hts gX6_move_X0_takeOwners rfl rfl rfl (by decide +kernel) ⟨Nat.le_of_ble_eq_true rfl, Nat.le_of_ble_eq_true rfl⟩) hK hP hD hS hA [1, 2, 3, 4, 5, 6, 7, 45] [0, 8, 9, 10, 11, 12, 13, 14, 15, 16, 17, 18, 19, 20, 21, 22, 23, 24, 25, 26, 27, 28, 29, 30, 31, 32, 33, 34, 35, 36, 37, 38, 39, 40, 41, 42, 43, 44] [0, 38, 39, 40, 41, 42, 43, 44, 1, 2, 3, 4, 5, 6, 7, 8, 9, 10, 11, 12, 13, 14, 15, 16, 17, 18, 19, 20, 21, 22, 23, 24, 25, 26, 27, 28, 29, 30, 31, 32, 33, 34, 35, 36, 37, 45] rfl rfl (by decide) (by decide) (by decide) (fun u => rfl) (by decide) rfl rfl rfl rfl hl.1 rfl (Nat.le_of_ble_eq_true rfl) dX6_move_40 ⟨Nat.zero_le _, Nat.zero_le _⟩ (fun cw_14 H locs hw hP hD hS => ?_)
    have hP : va_P (dC, dI) vwCl ((kRoot so co sh xo mo no djo ss_3 sq_4) ++ ((kCake kI kA co ca cv cr cg cw_14 cV) ++ ((kHist kI kA kC sh qo_8 qa_9 qv_10 qr_11 qg_5 qw_6 qV_7) ++ (kMark kI mo ma mw_12)))) H := hP
    have hD : va_D A ((kRoot so co sh xo mo no djo ss_3 sq_4) ++ ((kCake kI kA co ca cv cr cg cw_14 cV) ++ ((kHist kI kA kC sh qo_8 qa_9 qv_10 qr_11 qg_5 qw_6 qV_7) ++ (kMark kI mo ma mw_12)))) := hD
    refine lv_iload_n hx hb dX6_move_43 rfl (lv_at hl 0 rfl) ?_
    exact hret 44 r_13 (ss_3, sq_4, cw_14, qg_5, qw_6, qV_7, mw_12, qo_8, qa_9, qv_10, qr_11) _ _ _ (fun h => absurd h (by decide)) hw hP hD hS dX6_move_44
  · have hw := hw.2 c_2
    refine lv_iconst (v := (-1 : Int32)) hx hb dX6_move_9 (by decide) ?_
    exact hret 10 (-1 : Int32) (ss, sq, cw, qg, qw, qV, mw, qo, qa, qv, qr) _ _ _ (fun h => absurd h (by decide)) hw hP hD hS dX6_move_10
-- CakeMarks.isPair(II)Z
def Wp_X6_isPair (cg : Int32) (a1 : Int32) (a2 : Int32) (Z : Int32 → Prop) : Prop := (Wp_X0_isGuest cg a1 (fun r_1 => ((r_1 = (0 : Int32) → (Z (0 : Int32))) ∧ (¬ r_1 = (0 : Int32) → (Wp_X0_isGuest cg a2 (fun r_3 => ((r_3 = (0 : Int32) → (Z (0 : Int32))) ∧ (¬ r_3 = (0 : Int32) → ((a1 = a2 → (Z (0 : Int32))) ∧ (¬ a1 = a2 → (Z (1 : Int32))))))))))))
theorem in_X6_isPair_X6 : ∀ w ∈ u_ws RX6 TX6 8, w ∈ wsX6_isPair := fun w h => List.mem_cons_of_mem _ (List.mem_append_left _ (List.mem_append_right _ h))
set_option maxHeartbeats 20000000 in
set_option maxRecDepth 100000 in
theorem c_X6_isPair (l : Launch) (dC : Nat → ClassId) (dI : Nat → Nat → Nat) (kI kA kC : ClassId) (so : Nat) (co : Nat) (sh : Nat) (xo : Nat) (mo : Nat) (no : Nat) (djo : Nat) (ca : Nat) (cv : Nat) (cr : Nat → Nat) (sz : Nat) (ss : Int32) (sq : Int32) (cg : Int32) (cw : Nat → Int32) (cV : Nat → Nat → Int32) (a1 : Int32) (a2 : Int32) (Z : Int32 → Prop) (hw : Wp_X6_isPair cg a1 a2 Z) : zI l yX6_isPair wsX6_isPair ({ frames := 1, cells := 0, slots := 0, locals := 21 }) dC dI kI kA kC sz 0 0 [.ref so, .int a1, .int a2] ((kRoot so co sh xo mo no djo ss sq) ++ (kCake kI kA co ca cv cr cg cw cV)) (fun (r : Int32) (u : Unit) => Z r ) (fun (u : Unit) => ((kRoot so co sh xo mo no djo ss sq) ++ (kCake kI kA co ca cv cr cg cw cV))) := by
  refine zI.of (cc := cX6_isPair) (maxL := 3) (ty := .boolean) (by decide) rfl (Nat.le_of_ble_eq_true rfl) (Or.inr rfl) ?_
  intro p e s m args below meth c A Q C0 hret ls hl
  obtain ⟨hx, hb, hr, hml, hts, hown, hin, hP, hK, hD, hA, hS⟩ := C0
  have hown : s.vm.findClass RX6 = some m.cls := hown
  have hl : lv_has ls 3 [(0, .ref so), (1, .int a1), (2, .int a2)] := hl
  unfold Wp_X6_isPair at hw
  refine lv_aload_n hx hb dX6_isPair_0 rfl (lv_at hl 0 rfl) ?_
  refine va_get (D := (dC, dI)) (ci := 6) (v := .ref co) (C := RX6) (T := TX6) (N := 8) hx hb hts in_X6_isPair_X6 hown hK hP 0 rfl rfl 0 (by decide) (hts (.fieldLink RX6 10 "CakeMarks" "cake" "LCakeMarks$Cake;") (List.mem_of_getElem? (i := 1) rfl)) (fun _ h9 => h9) rfl dX6_isPair_1 ?_
  refine lv_iload_n hx hb dX6_isPair_4 rfl (lv_at hl 1 rfl) ?_
  refine zcallI (ci := 0) (q0 := 0) (As := [.int a1]) (rest := []) (wr := (kRoot so co sh xo mo no djo ss sq)) (Wn := fun u => ((kRoot so co sh xo mo no djo ss sq) ++ (kCake kI kA co ca cv cr cg cw cV))) ⟨hx, hb, hml, hown, hts⟩ (c_X0_isGuest l dC dI kI kA kC co ca cv cr _ cg cw cV a1 _ hw) (cwV 1 hts gX6_isPair_X0_isGuest rfl rfl rfl (by decide +kernel) ⟨Nat.le_of_ble_eq_true rfl, Nat.le_of_ble_eq_true rfl⟩) hK hP hD hS hA [1, 2, 3, 4, 5, 6, 7] [0] [0, 1, 2, 3, 4, 5, 6, 7] rfl rfl (by decide) (by decide) (by decide) (fun u => rfl) (by decide) rfl rfl rfl rfl hl.1 rfl (Nat.le_of_ble_eq_true rfl) dX6_isPair_5 ⟨Nat.zero_le _, Nat.zero_le _⟩ (fun r_1 u H locs hw hP hD hS => ?_)
  have hP : va_P (dC, dI) vwCl ((kRoot so co sh xo mo no djo ss sq) ++ (kCake kI kA co ca cv cr cg cw cV)) H := hP
  have hD : va_D A ((kRoot so co sh xo mo no djo ss sq) ++ (kCake kI kA co ca cv cr cg cw cV)) := hD
  refine lv_if_eq (tgt := 31) hx hb dX6_isPair_8 (by decide) (fun c_2 => ?_) (fun c_2 => ?_)
  · have hw := hw.1 c_2
    refine lv_iconst (v := (0 : Int32)) hx hb dX6_isPair_31 (by decide) ?_
    exact hret 32 (0 : Int32) () _ _ _ (fun _ => rfl) hw hP hD hS dX6_isPair_32
  · have hw := hw.2 c_2
    refine lv_aload_n hx hb dX6_isPair_11 rfl (lv_at hl 0 rfl) ?_
    refine va_get (D := (dC, dI)) (ci := 6) (v := .ref co) (C := RX6) (T := TX6) (N := 8) hx hb hts in_X6_isPair_X6 hown hK hP 0 rfl rfl 0 (by decide) (hts (.fieldLink RX6 10 "CakeMarks" "cake" "LCakeMarks$Cake;") (List.mem_of_getElem? (i := 1) rfl)) (fun _ h9 => h9) rfl dX6_isPair_12 ?_
    refine lv_iload_n hx hb dX6_isPair_15 rfl (lv_at hl 2 rfl) ?_
    refine zcallI (ci := 0) (q0 := 0) (As := [.int a2]) (rest := []) (wr := (kRoot so co sh xo mo no djo ss sq)) (Wn := fun u => ((kRoot so co sh xo mo no djo ss sq) ++ (kCake kI kA co ca cv cr cg cw cV))) ⟨hx, hb, hml, hown, hts⟩ (c_X0_isGuest l dC dI kI kA kC co ca cv cr _ cg cw cV a2 _ hw) (cwV 1 hts gX6_isPair_X0_isGuest rfl rfl rfl (by decide +kernel) ⟨Nat.le_of_ble_eq_true rfl, Nat.le_of_ble_eq_true rfl⟩) hK hP hD hS hA [1, 2, 3, 4, 5, 6, 7] [0] [0, 1, 2, 3, 4, 5, 6, 7] rfl rfl (by decide) (by decide) (by decide) (fun u => rfl) (by decide) rfl rfl rfl rfl hl.1 rfl (Nat.le_of_ble_eq_true rfl) dX6_isPair_16 ⟨Nat.zero_le _, Nat.zero_le _⟩ (fun r_3 u H locs hw hP hD hS => ?_)
    have hP : va_P (dC, dI) vwCl ((kRoot so co sh xo mo no djo ss sq) ++ (kCake kI kA co ca cv cr cg cw cV)) H := hP
    have hD : va_D A ((kRoot so co sh xo mo no djo ss sq) ++ (kCake kI kA co ca cv cr cg cw cV)) := hD
    refine lv_if_eq (tgt := 31) hx hb dX6_isPair_19 (by decide) (fun c_4 => ?_) (fun c_4 => ?_)
    · have hw := hw.1 c_4
      refine lv_iconst (v := (0 : Int32)) hx hb dX6_isPair_31 (by decide) ?_
      exact hret 32 (0 : Int32) () _ _ _ (fun _ => rfl) hw hP hD hS dX6_isPair_32
    · have hw := hw.2 c_4
      refine lv_iload_n hx hb dX6_isPair_22 rfl (lv_at hl 1 rfl) ?_
      refine lv_iload_n hx hb dX6_isPair_23 rfl (lv_at hl 2 rfl) ?_
      refine lv_icmp_eq (tgt := 31) hx hb dX6_isPair_24 (by decide) (fun c_5 => ?_) (fun c_5 => ?_)
      · have hw := hw.1 c_5
        refine lv_iconst (v := (0 : Int32)) hx hb dX6_isPair_31 (by decide) ?_
        exact hret 32 (0 : Int32) () _ _ _ (fun _ => rfl) hw hP hD hS dX6_isPair_32
      · have hw := hw.2 c_5
        refine lv_iconst (v := (1 : Int32)) hx hb dX6_isPair_27 (by decide) ?_
        refine lv_goto (tgt := 32) hx hb dX6_isPair_28 (by decide) ?_
        exact hret 32 (1 : Int32) () _ _ _ (fun _ => rfl) hw hP hD hS dX6_isPair_32
