-- CakeMarks.trim(II)I
def Wp_X6_trim (ss : Int32) (sq : Int32) (cg : Int32) (cw : Nat → Int32) (cV : Nat → Nat → Int32) (qg : Nat → Int32) (qw : Nat → Nat → Int32) (qV : Nat → Nat → Nat → Int32) (a1 : Int32) (a2 : Int32) (Z : Int32 → Int32 → Int32 → (Nat → Int32) → (Nat → Int32) → (Nat → Nat → Int32) → (Nat → Nat → Nat → Int32) → Prop) : Prop := (Wp_X6_isPair cg a1 a2 (fun r_1 => ((¬ r_1 = (0 : Int32) → (Wp_X6_record ss sq cg cw cV qg qw qV (fun ss_3 sq_4 qg_5 qw_6 qV_7 => (Wp_X0_trimPiece cw cV a1 a2 (fun r_13 cw_12 => (Z r_13 ss_3 sq_4 cw_12 qg_5 qw_6 qV_7)))))) ∧ (r_1 = (0 : Int32) → (Z (-1 : Int32) ss sq cw qg qw qV)))))
theorem in_X6_trim_X6 : ∀ w ∈ u_ws RX6 TX6 8, w ∈ wsX6_trim := fun w h => List.mem_cons_of_mem _ (List.mem_append_left _ (List.mem_append_right _ h))
set_option maxHeartbeats 20000000 in
set_option maxRecDepth 100000 in
theorem c_X6_trim (l : Launch) (dC : Nat → ClassId) (dI : Nat → Nat → Nat) (kI kA kC : ClassId) (so : Nat) (co : Nat) (sh : Nat) (xo : Nat) (mo : Nat) (no : Nat) (djo : Nat) (ca : Nat) (cv : Nat) (cr : Nat → Nat) (qo : Nat → Nat) (qa : Nat → Nat) (qv : Nat → Nat) (qr : Nat → Nat → Nat) (sz : Nat) (ss : Int32) (sq : Int32) (cg : Int32) (cw : Nat → Int32) (cV : Nat → Nat → Int32) (qg : Nat → Int32) (qw : Nat → Nat → Int32) (qV : Nat → Nat → Nat → Int32) (a1 : Int32) (a2 : Int32) (Z : Int32 → Int32 → Int32 → (Nat → Int32) → (Nat → Int32) → (Nat → Nat → Int32) → (Nat → Nat → Nat → Int32) → Prop) (hw : Wp_X6_trim ss sq cg cw cV qg qw qV a1 a2 Z) : zI l yX6_trim wsX6_trim ({ frames := 4, cells := 0, slots := 0, locals := 94 }) dC dI kI kA kC sz 0 0 [.ref so, .int a1, .int a2] ((kRoot so co sh xo mo no djo ss sq) ++ ((kCake kI kA co ca cv cr cg cw cV) ++ (kHist kI kA kC sh qo qa qv qr qg qw qV))) (fun (r : Int32) (u : Int32 × Int32 × (Nat → Int32) × (Nat → Int32) × (Nat → Nat → Int32) × (Nat → Nat → Nat → Int32) × (Nat → Nat) × (Nat → Nat) × (Nat → Nat) × (Nat → Nat → Nat)) => Z r u.1 u.2.1 u.2.2.1 u.2.2.2.1 u.2.2.2.2.1 u.2.2.2.2.2.1) (fun (u : Int32 × Int32 × (Nat → Int32) × (Nat → Int32) × (Nat → Nat → Int32) × (Nat → Nat → Nat → Int32) × (Nat → Nat) × (Nat → Nat) × (Nat → Nat) × (Nat → Nat → Nat)) => ((kRoot so co sh xo mo no djo u.1 u.2.1) ++ ((kCake kI kA co ca cv cr cg u.2.2.1 cV) ++ (kHist kI kA kC sh u.2.2.2.2.2.2.1 u.2.2.2.2.2.2.2.1 u.2.2.2.2.2.2.2.2.1 u.2.2.2.2.2.2.2.2.2 u.2.2.2.1 u.2.2.2.2.1 u.2.2.2.2.2.1)))) := by
  refine zI.of (cc := cX6_trim) (maxL := 3) (ty := .int) (by decide) rfl (Nat.le_of_ble_eq_true rfl) (Or.inl rfl) ?_
  intro p e s m args below meth c A Q C0 hret ls hl
  obtain ⟨hx, hb, hr, hml, hts, hown, hin, hP, hK, hD, hA, hS⟩ := C0
  have hown : s.vm.findClass RX6 = some m.cls := hown
  have hl : lv_has ls 3 [(0, .ref so), (1, .int a1), (2, .int a2)] := hl
  unfold Wp_X6_trim at hw
  refine lv_aload_n hx hb dX6_trim_0 rfl (lv_at hl 0 rfl) ?_
  refine lv_iload_n hx hb dX6_trim_1 rfl (lv_at hl 1 rfl) ?_
  refine lv_iload_n hx hb dX6_trim_2 rfl (lv_at hl 2 rfl) ?_
  refine zcallI (ci := 6) (q0 := 0) (As := [.int a1, .int a2]) (rest := []) (wr := (kHist kI kA kC sh qo qa qv qr qg qw qV)) (Wn := fun u => ((kRoot so co sh xo mo no djo ss sq) ++ ((kCake kI kA co ca cv cr cg cw cV) ++ (kHist kI kA kC sh qo qa qv qr qg qw qV)))) ⟨hx, hb, hml, hown, hts⟩ (c_X6_isPair l dC dI kI kA kC so co sh xo mo no djo ca cv cr _ ss sq cg cw cV a1 a2 _ hw) (cwV 2 hts gX6_trim_X6_isPair rfl rfl rfl (by decide +kernel) ⟨Nat.le_of_ble_eq_true rfl, Nat.le_of_ble_eq_true rfl⟩) hK hP hD hS hA [0, 1, 2, 3, 4, 5, 6, 7] [8, 9, 10, 11, 12, 13, 14, 15, 16, 17, 18, 19, 20, 21, 22, 23, 24, 25, 26, 27, 28, 29, 30, 31, 32, 33, 34, 35, 36, 37, 38, 39, 40, 41, 42, 43] [36, 37, 38, 39, 40, 41, 42, 43, 0, 1, 2, 3, 4, 5, 6, 7, 8, 9, 10, 11, 12, 13, 14, 15, 16, 17, 18, 19, 20, 21, 22, 23, 24, 25, 26, 27, 28, 29, 30, 31, 32, 33, 34, 35] rfl rfl (by decide) (by decide) (by decide) (fun u => rfl) (by decide) rfl rfl rfl rfl hl.1 rfl (Nat.le_of_ble_eq_true rfl) dX6_trim_3 ⟨Nat.zero_le _, Nat.zero_le _⟩ (fun r_1 u H locs hw hP hD hS => ?_)
  have hP : va_P (dC, dI) vwCl ((kRoot so co sh xo mo no djo ss sq) ++ ((kCake kI kA co ca cv cr cg cw cV) ++ (kHist kI kA kC sh qo qa qv qr qg qw qV))) H := hP
  have hD : va_D A ((kRoot so co sh xo mo no djo ss sq) ++ ((kCake kI kA co ca cv cr cg cw cV) ++ (kHist kI kA kC sh qo qa qv qr qg qw qV))) := hD
  refine lv_if_ne (tgt := 11) hx hb dX6_trim_6 (by decide) (fun c_2 => ?_) (fun c_2 => ?_)
  · have hw := hw.1 c_2
    refine lv_aload_n hx hb dX6_trim_11 rfl (lv_at hl 0 rfl) ?_
    refine zcallV (ci := 6) (q0 := 0) (As := []) (rest := []) (wr := ([] : va_W)) (Wn := fun u => ((kRoot so co sh xo mo no djo u.1 u.2.1) ++ ((kCake kI kA co ca cv cr cg cw cV) ++ (kHist kI kA kC sh u.2.2.2.2.2.1 u.2.2.2.2.2.2.1 u.2.2.2.2.2.2.2.1 u.2.2.2.2.2.2.2.2 u.2.2.1 u.2.2.2.1 u.2.2.2.2.1)))) ⟨hx, hb, hml, hown, hts⟩ (c_X6_record l dC dI kI kA kC so co sh xo mo no djo ca cv cr qo qa qv qr _ ss sq cg cw cV qg qw qV _ hw) (cwV 0 hts gX6_trim_X6_record rfl rfl rfl (by decide +kernel) ⟨Nat.le_of_ble_eq_true rfl, Nat.le_of_ble_eq_true rfl⟩) hK hP hD hS hA [0, 1, 2, 3, 4, 5, 6, 7, 8, 9, 10, 11, 12, 13, 14, 15, 16, 17, 18, 19, 20, 21, 22, 23, 24, 25, 26, 27, 28, 29, 30, 31, 32, 33, 34, 35, 36, 37, 38, 39, 40, 41, 42, 43] [] [0, 1, 2, 3, 4, 5, 6, 7, 8, 9, 10, 11, 12, 13, 14, 15, 16, 17, 18, 19, 20, 21, 22, 23, 24, 25, 26, 27, 28, 29, 30, 31, 32, 33, 34, 35, 36, 37, 38, 39, 40, 41, 42, 43] rfl rfl (by decide) (by decide) (by decide) (fun u => rfl) (by decide) rfl rfl rfl rfl hl.1 rfl (Nat.le_of_ble_eq_true rfl) dX6_trim_12 ⟨Nat.zero_le _, Nat.zero_le _⟩ (fun u H locs hw hP hD hS => ?_)
    obtain ⟨ss_3, sq_4, qg_5, qw_6, qV_7, qo_8, qa_9, qv_10, qr_11⟩ := u
    have hP : va_P (dC, dI) vwCl ((kRoot so co sh xo mo no djo ss_3 sq_4) ++ ((kCake kI kA co ca cv cr cg cw cV) ++ (kHist kI kA kC sh qo_8 qa_9 qv_10 qr_11 qg_5 qw_6 qV_7))) H := hP
    have hD : va_D A ((kRoot so co sh xo mo no djo ss_3 sq_4) ++ ((kCake kI kA co ca cv cr cg cw cV) ++ (kHist kI kA kC sh qo_8 qa_9 qv_10 qr_11 qg_5 qw_6 qV_7))) := hD
    refine lv_aload_n hx hb dX6_trim_15 rfl (lv_at hl 0 rfl) ?_
    refine va_get (D := (dC, dI)) (ci := 6) (v := .ref co) (C := RX6) (T := TX6) (N := 8) hx hb hts in_X6_trim_X6 hown hK hP 0 rfl rfl 0 (by decide) (hts (.fieldLink RX6 10 "CakeMarks" "cake" "LCakeMarks$Cake;") (List.mem_of_getElem? (i := 1) rfl)) (fun _ h9 => h9) rfl dX6_trim_16 ?_
    refine lv_iload_n hx hb dX6_trim_19 rfl (lv_at hl 1 rfl) ?_
    refine lv_iload_n hx hb dX6_trim_20 rfl (lv_at hl 2 rfl) ?_
    refine zcallI (ci := 0) (q0 := 0) (As := [.int a1, .int a2]) (rest := []) (wr := ((kRoot so co sh xo mo no djo ss_3 sq_4) ++ (kHist kI kA kC sh qo_8 qa_9 qv_10 qr_11 qg_5 qw_6 qV_7))) (Wn := fun u => ((kRoot so co sh xo mo no djo ss_3 sq_4) ++ ((kCake kI kA co ca cv cr cg u cV) ++ (kHist kI kA kC sh qo_8 qa_9 qv_10 qr_11 qg_5 qw_6 qV_7)))) ⟨hx, hb, hml, hown, hts⟩ (c_X0_trimPiece l dC dI kI kA kC co ca cv cr _ cg cw cV a1 a2 _ hw) (cwV 2 hts gX6_trim_X0_trimPiece rfl rfl rfl (by decide +kernel) ⟨Nat.le_of_ble_eq_true rfl, Nat.le_of_ble_eq_true rfl⟩) hK hP hD hS hA [1, 2, 3, 4, 5, 6, 7] [0, 8, 9, 10, 11, 12, 13, 14, 15, 16, 17, 18, 19, 20, 21, 22, 23, 24, 25, 26, 27, 28, 29, 30, 31, 32, 33, 34, 35, 36, 37, 38, 39, 40, 41, 42, 43] [0, 37, 38, 39, 40, 41, 42, 43, 1, 2, 3, 4, 5, 6, 7, 8, 9, 10, 11, 12, 13, 14, 15, 16, 17, 18, 19, 20, 21, 22, 23, 24, 25, 26, 27, 28, 29, 30, 31, 32, 33, 34, 35, 36] rfl rfl (by decide) (by decide) (by decide) (fun u => rfl) (by decide) rfl rfl rfl rfl hl.1 rfl (Nat.le_of_ble_eq_true rfl) dX6_trim_21 ⟨Nat.zero_le _, Nat.zero_le _⟩ (fun r_13 cw_12 H locs hw hP hD hS => ?_)
    have hP : va_P (dC, dI) vwCl ((kRoot so co sh xo mo no djo ss_3 sq_4) ++ ((kCake kI kA co ca cv cr cg cw_12 cV) ++ (kHist kI kA kC sh qo_8 qa_9 qv_10 qr_11 qg_5 qw_6 qV_7))) H := hP
    have hD : va_D A ((kRoot so co sh xo mo no djo ss_3 sq_4) ++ ((kCake kI kA co ca cv cr cg cw_12 cV) ++ (kHist kI kA kC sh qo_8 qa_9 qv_10 qr_11 qg_5 qw_6 qV_7))) := hD
    exact hret 24 r_13 (ss_3, sq_4, cw_12, qg_5, qw_6, qV_7, qo_8, qa_9, qv_10, qr_11) _ _ _ (fun h => absurd h (by decide)) hw hP hD hS dX6_trim_24
  · have hw := hw.2 c_2
    refine lv_iconst (v := (-1 : Int32)) hx hb dX6_trim_9 (by decide) ?_
    exact hret 10 (-1 : Int32) (ss, sq, cw, qg, qw, qV, qo, qa, qv, qr) _ _ _ (fun h => absurd h (by decide)) hw hP hD hS dX6_trim_10
-- CakeMarks.exchange()I
def Wp_X6_exchange (ss : Int32) (sq : Int32) (cg : Int32) (cw : Nat → Int32) (cV : Nat → Nat → Int32) (qg : Nat → Int32) (qw : Nat → Nat → Int32) (qV : Nat → Nat → Nat → Int32) (nE : Nat → Int32) (nrT : Nat → Int32) (nrs : Int32) (nrg : Int32) (Z : Int32 → Int32 → Int32 → (Nat → Int32) → (Nat → Int32) → (Nat → Nat → Int32) → (Nat → Nat → Nat → Int32) → (Nat → Int32) → (Nat → Int32) → Int32 → Int32 → Prop) : Prop := (Wp_X3_find nE nrT nrs nrg cg cw cV (fun r_5 nE_1 nrT_2 nrs_3 nrg_4 => ((¬ r_5 = (0 : Int32) → (Wp_X6_record ss sq cg cw cV qg qw qV (fun ss_7 sq_8 qg_9 qw_10 qV_11 => (Wp_X0_passPieces cw nrT_2 nrs_3 (fun cw_16 => (Z r_5 ss_7 sq_8 cw_16 qg_9 qw_10 qV_11 nE_1 nrT_2 nrs_3 nrg_4)))))) ∧ (r_5 = (0 : Int32) → (Z (-2 : Int32) ss sq cw qg qw qV nE_1 nrT_2 nrs_3 nrg_4)))))
theorem in_X6_exchange_X3 : ∀ w ∈ u_ws RX3 TX3 2, w ∈ wsX6_exchange := fun w h => List.mem_cons_of_mem _ (List.mem_append_left _ (List.mem_append_left _ (List.mem_append_right _ h)))
theorem in_X6_exchange_X6 : ∀ w ∈ u_ws RX6 TX6 8, w ∈ wsX6_exchange := fun w h => List.mem_cons_of_mem _ (List.mem_append_left _ (List.mem_append_left _ (List.mem_append_left _ (List.mem_append_right _ h))))
set_option maxHeartbeats 20000000 in
set_option maxRecDepth 100000 in
theorem c_X6_exchange (l : Launch) (dC : Nat → ClassId) (dI : Nat → Nat → Nat) (kI kA kC : ClassId) (so : Nat) (co : Nat) (sh : Nat) (xo : Nat) (mo : Nat) (no : Nat) (djo : Nat) (ca : Nat) (cv : Nat) (cr : Nat → Nat) (qo : Nat → Nat) (qa : Nat → Nat) (qv : Nat → Nat) (qr : Nat → Nat → Nat) (nro : Nat) (ne : Nat) (nra : Nat) (sz : Nat) (ss : Int32) (sq : Int32) (cg : Int32) (cw : Nat → Int32) (cV : Nat → Nat → Int32) (qg : Nat → Int32) (qw : Nat → Nat → Int32) (qV : Nat → Nat → Nat → Int32) (nE : Nat → Int32) (nrT : Nat → Int32) (nrs : Int32) (nrg : Int32) (Z : Int32 → Int32 → Int32 → (Nat → Int32) → (Nat → Int32) → (Nat → Nat → Int32) → (Nat → Nat → Nat → Int32) → (Nat → Int32) → (Nat → Int32) → Int32 → Int32 → Prop) (hw : Wp_X6_exchange ss sq cg cw cV qg qw qV nE nrT nrs nrg Z) : zI l yX6_exchange wsX6_exchange ({ frames := 5, cells := 0, slots := 0, locals := 117 }) dC dI kI kA kC sz 0 0 [.ref so] ((kRoot so co sh xo mo no djo ss sq) ++ ((kCake kI kA co ca cv cr cg cw cV) ++ ((kHist kI kA kC sh qo qa qv qr qg qw qV) ++ ((kRings kI no nro ne nE) ++ (kRow kI nro nra nrT nrs nrg))))) (fun (r : Int32) (u : Int32 × Int32 × (Nat → Int32) × (Nat → Int32) × (Nat → Nat → Int32) × (Nat → Nat → Nat → Int32) × (Nat → Int32) × (Nat → Int32) × Int32 × Int32 × (Nat → Nat) × (Nat → Nat) × (Nat → Nat) × (Nat → Nat → Nat)) => Z r u.1 u.2.1 u.2.2.1 u.2.2.2.1 u.2.2.2.2.1 u.2.2.2.2.2.1 u.2.2.2.2.2.2.1 u.2.2.2.2.2.2.2.1 u.2.2.2.2.2.2.2.2.1 u.2.2.2.2.2.2.2.2.2.1) (fun (u : Int32 × Int32 × (Nat → Int32) × (Nat → Int32) × (Nat → Nat → Int32) × (Nat → Nat → Nat → Int32) × (Nat → Int32) × (Nat → Int32) × Int32 × Int32 × (Nat → Nat) × (Nat → Nat) × (Nat → Nat) × (Nat → Nat → Nat)) => ((kRoot so co sh xo mo no djo u.1 u.2.1) ++ ((kCake kI kA co ca cv cr cg u.2.2.1 cV) ++ ((kHist kI kA kC sh u.2.2.2.2.2.2.2.2.2.2.1 u.2.2.2.2.2.2.2.2.2.2.2.1 u.2.2.2.2.2.2.2.2.2.2.2.2.1 u.2.2.2.2.2.2.2.2.2.2.2.2.2 u.2.2.2.1 u.2.2.2.2.1 u.2.2.2.2.2.1) ++ ((kRings kI no nro ne u.2.2.2.2.2.2.1) ++ (kRow kI nro nra u.2.2.2.2.2.2.2.1 u.2.2.2.2.2.2.2.2.1 u.2.2.2.2.2.2.2.2.2.1)))))) := by
  refine zI.of (cc := cX6_exchange) (maxL := 2) (ty := .int) (by decide) rfl (Nat.le_of_ble_eq_true rfl) (Or.inl rfl) ?_
  intro p e s m args below meth c A Q C0 hret ls hl
  obtain ⟨hx, hb, hr, hml, hts, hown, hin, hP, hK, hD, hA, hS⟩ := C0
  have hown : s.vm.findClass RX6 = some m.cls := hown
  have hl : lv_has ls 2 [(0, .ref so)] := hl
  unfold Wp_X6_exchange at hw
  refine lv_aload_n hx hb dX6_exchange_0 rfl (lv_at hl 0 rfl) ?_
  refine va_get (D := (dC, dI)) (ci := 6) (v := .ref no) (C := RX6) (T := TX6) (N := 8) hx hb hts in_X6_exchange_X6 hown hK hP 0 rfl rfl 5 (by decide) (hts (.fieldLink RX6 41 "CakeMarks" "rings" "LCakeMarks$Rings;") (List.mem_of_getElem? (i := 1) rfl)) (fun _ h9 => h9) rfl dX6_exchange_1 ?_
  refine lv_aload_n hx hb dX6_exchange_4 rfl (lv_at hl 0 rfl) ?_
  refine va_get (D := (dC, dI)) (ci := 6) (v := .ref co) (C := RX6) (T := TX6) (N := 8) hx hb hts in_X6_exchange_X6 hown hK hP 0 rfl rfl 0 (by decide) (hts (.fieldLink RX6 10 "CakeMarks" "cake" "LCakeMarks$Cake;") (List.mem_of_getElem? (i := 2) rfl)) (fun _ h9 => h9) rfl dX6_exchange_5 ?_
  refine zcallI (ci := 3) (q0 := 0) (As := [.ref co]) (rest := []) (wr := ((kRoot so co sh xo mo no djo ss sq) ++ (kHist kI kA kC sh qo qa qv qr qg qw qV))) (Wn := fun u => ((kRoot so co sh xo mo no djo ss sq) ++ ((kCake kI kA co ca cv cr cg cw cV) ++ ((kHist kI kA kC sh qo qa qv qr qg qw qV) ++ ((kRings kI no nro ne u.1) ++ (kRow kI nro nra u.2.1 u.2.2.1 u.2.2.2)))))) ⟨hx, hb, hml, hown, hts⟩ (c_X3_find l dC dI kI kA kC no nro ne nra co ca cv cr _ nE nrT nrs nrg cg cw cV _ hw) (cwV 1 hts gX6_exchange_X3_find rfl rfl rfl (by decide +kernel) ⟨Nat.le_of_ble_eq_true rfl, Nat.le_of_ble_eq_true rfl⟩) hK hP hD hS hA [44, 45, 46, 47, 1, 2, 3, 4, 5, 6, 7] [0, 8, 9, 10, 11, 12, 13, 14, 15, 16, 17, 18, 19, 20, 21, 22, 23, 24, 25, 26, 27, 28, 29, 30, 31, 32, 33, 34, 35, 36, 37, 38, 39, 40, 41, 42, 43] [0, 41, 42, 43, 44, 45, 46, 47, 1, 2, 3, 4, 5, 6, 7, 8, 9, 10, 11, 12, 13, 14, 15, 16, 17, 18, 19, 20, 21, 22, 23, 24, 25, 26, 27, 28, 29, 30, 31, 32, 33, 34, 35, 36, 37, 38, 39, 40] rfl rfl (by decide) (by decide) (by decide) (fun u => rfl) (by decide) rfl rfl rfl rfl hl.1 rfl (Nat.le_of_ble_eq_true rfl) dX6_exchange_8 ⟨Nat.zero_le _, Nat.zero_le _⟩ (fun r_5 u H locs hw hP hD hS => ?_)
  obtain ⟨nE_1, nrT_2, nrs_3, nrg_4⟩ := u
  have hP : va_P (dC, dI) vwCl ((kRoot so co sh xo mo no djo ss sq) ++ ((kCake kI kA co ca cv cr cg cw cV) ++ ((kHist kI kA kC sh qo qa qv qr qg qw qV) ++ ((kRings kI no nro ne nE_1) ++ (kRow kI nro nra nrT_2 nrs_3 nrg_4))))) H := hP
  have hD : va_D A ((kRoot so co sh xo mo no djo ss sq) ++ ((kCake kI kA co ca cv cr cg cw cV) ++ ((kHist kI kA kC sh qo qa qv qr qg qw qV) ++ ((kRings kI no nro ne nE_1) ++ (kRow kI nro nra nrT_2 nrs_3 nrg_4))))) := hD
  refine lv_istore_n (lv' := [(1, .int r_5), (0, .ref so)]) hx hb dX6_exchange_11 rfl hl (by decide) rfl (fun ls hl => ?_)
  refine lv_iload_n hx hb dX6_exchange_12 rfl (lv_at hl 0 rfl) ?_
  refine lv_if_ne (tgt := 19) hx hb dX6_exchange_13 (by decide) (fun c_6 => ?_) (fun c_6 => ?_)
  · have hw := hw.1 c_6
    refine lv_aload_n hx hb dX6_exchange_19 rfl (lv_at hl 1 rfl) ?_
    refine zcallV (ci := 6) (q0 := 0) (As := []) (rest := []) (wr := ((kRings kI no nro ne nE_1) ++ (kRow kI nro nra nrT_2 nrs_3 nrg_4))) (Wn := fun u => ((kRoot so co sh xo mo no djo u.1 u.2.1) ++ ((kCake kI kA co ca cv cr cg cw cV) ++ ((kHist kI kA kC sh u.2.2.2.2.2.1 u.2.2.2.2.2.2.1 u.2.2.2.2.2.2.2.1 u.2.2.2.2.2.2.2.2 u.2.2.1 u.2.2.2.1 u.2.2.2.2.1) ++ ((kRings kI no nro ne nE_1) ++ (kRow kI nro nra nrT_2 nrs_3 nrg_4)))))) ⟨hx, hb, hml, hown, hts⟩ (c_X6_record l dC dI kI kA kC so co sh xo mo no djo ca cv cr qo qa qv qr _ ss sq cg cw cV qg qw qV _ hw) (cwV 0 hts gX6_exchange_X6_record rfl rfl rfl (by decide +kernel) ⟨Nat.le_of_ble_eq_true rfl, Nat.le_of_ble_eq_true rfl⟩) hK hP hD hS hA [0, 1, 2, 3, 4, 5, 6, 7, 8, 9, 10, 11, 12, 13, 14, 15, 16, 17, 18, 19, 20, 21, 22, 23, 24, 25, 26, 27, 28, 29, 30, 31, 32, 33, 34, 35, 36, 37, 38, 39, 40, 41, 42, 43] [44, 45, 46, 47] [4, 5, 6, 7, 8, 9, 10, 11, 12, 13, 14, 15, 16, 17, 18, 19, 20, 21, 22, 23, 24, 25, 26, 27, 28, 29, 30, 31, 32, 33, 34, 35, 36, 37, 38, 39, 40, 41, 42, 43, 44, 45, 46, 47, 0, 1, 2, 3] rfl rfl (by decide) (by decide) (by decide) (fun u => rfl) (by decide) rfl rfl rfl rfl hl.1 rfl (Nat.le_of_ble_eq_true rfl) dX6_exchange_20 ⟨Nat.zero_le _, Nat.zero_le _⟩ (fun u H locs hw hP hD hS => ?_)
    obtain ⟨ss_7, sq_8, qg_9, qw_10, qV_11, qo_12, qa_13, qv_14, qr_15⟩ := u
    have hP : va_P (dC, dI) vwCl ((kRoot so co sh xo mo no djo ss_7 sq_8) ++ ((kCake kI kA co ca cv cr cg cw cV) ++ ((kHist kI kA kC sh qo_12 qa_13 qv_14 qr_15 qg_9 qw_10 qV_11) ++ ((kRings kI no nro ne nE_1) ++ (kRow kI nro nra nrT_2 nrs_3 nrg_4))))) H := hP
    have hD : va_D A ((kRoot so co sh xo mo no djo ss_7 sq_8) ++ ((kCake kI kA co ca cv cr cg cw cV) ++ ((kHist kI kA kC sh qo_12 qa_13 qv_14 qr_15 qg_9 qw_10 qV_11) ++ ((kRings kI no nro ne nE_1) ++ (kRow kI nro nra nrT_2 nrs_3 nrg_4))))) := hD
    refine lv_aload_n hx hb dX6_exchange_23 rfl (lv_at hl 1 rfl) ?_
    refine va_get (D := (dC, dI)) (ci := 6) (v := .ref co) (C := RX6) (T := TX6) (N := 8) hx hb hts in_X6_exchange_X6 hown hK hP 0 rfl rfl 0 (by decide) (hts (.fieldLink RX6 10 "CakeMarks" "cake" "LCakeMarks$Cake;") (List.mem_of_getElem? (i := 2) rfl)) (fun _ h9 => h9) rfl dX6_exchange_24 ?_
    refine lv_aload_n hx hb dX6_exchange_27 rfl (lv_at hl 1 rfl) ?_
    refine va_get (D := (dC, dI)) (ci := 6) (v := .ref no) (C := RX6) (T := TX6) (N := 8) hx hb hts in_X6_exchange_X6 hown hK hP 0 rfl rfl 5 (by decide) (hts (.fieldLink RX6 41 "CakeMarks" "rings" "LCakeMarks$Rings;") (List.mem_of_getElem? (i := 1) rfl)) (fun _ h9 => h9) rfl dX6_exchange_28 ?_
    refine va_get (D := (dC, dI)) (ci := 3) (v := .ref nro) (C := RX3) (T := TX3) (N := 2) hx hb hts in_X6_exchange_X3 hown hK hP 44 rfl rfl 0 (by decide) (hts (.fieldLink RX6 140 "CakeMarks$Rings" "row" "LCakeMarks$Row;") (List.mem_of_getElem? (i := 3) rfl)) (fun _ h9 => h9) rfl dX6_exchange_31 ?_
    refine zcallV (ci := 0) (q0 := 0) (As := [.ref nro]) (rest := []) (wr := ((kRoot so co sh xo mo no djo ss_7 sq_8) ++ ((kHist kI kA kC sh qo_12 qa_13 qv_14 qr_15 qg_9 qw_10 qV_11) ++ (kRings kI no nro ne nE_1)))) (Wn := fun u => ((kRoot so co sh xo mo no djo ss_7 sq_8) ++ ((kCake kI kA co ca cv cr cg u cV) ++ ((kHist kI kA kC sh qo_12 qa_13 qv_14 qr_15 qg_9 qw_10 qV_11) ++ ((kRings kI no nro ne nE_1) ++ (kRow kI nro nra nrT_2 nrs_3 nrg_4)))))) ⟨hx, hb, hml, hown, hts⟩ (c_X0_passPieces l dC dI kI kA kC co ca cv cr nro nra _ cg cw cV nrT_2 nrs_3 nrg_4 _ hw) (cwV 1 hts gX6_exchange_X0_passPieces rfl rfl rfl (by decide +kernel) ⟨Nat.le_of_ble_eq_true rfl, Nat.le_of_ble_eq_true rfl⟩) hK hP hD hS hA [1, 2, 3, 4, 5, 6, 7, 46, 47] [0, 8, 9, 10, 11, 12, 13, 14, 15, 16, 17, 18, 19, 20, 21, 22, 23, 24, 25, 26, 27, 28, 29, 30, 31, 32, 33, 34, 35, 36, 37, 38, 39, 40, 41, 42, 43, 44, 45] [0, 39, 40, 41, 42, 43, 44, 45, 1, 2, 3, 4, 5, 6, 7, 8, 9, 10, 11, 12, 13, 14, 15, 16, 17, 18, 19, 20, 21, 22, 23, 24, 25, 26, 27, 28, 29, 30, 31, 32, 33, 34, 35, 36, 37, 38, 46, 47] rfl rfl (by decide) (by decide) (by decide) (fun u => rfl) (by decide) rfl rfl rfl rfl hl.1 rfl (Nat.le_of_ble_eq_true rfl) dX6_exchange_34 ⟨Nat.zero_le _, Nat.zero_le _⟩ (fun cw_16 H locs hw hP hD hS => ?_)
    have hP : va_P (dC, dI) vwCl ((kRoot so co sh xo mo no djo ss_7 sq_8) ++ ((kCake kI kA co ca cv cr cg cw_16 cV) ++ ((kHist kI kA kC sh qo_12 qa_13 qv_14 qr_15 qg_9 qw_10 qV_11) ++ ((kRings kI no nro ne nE_1) ++ (kRow kI nro nra nrT_2 nrs_3 nrg_4))))) H := hP
    have hD : va_D A ((kRoot so co sh xo mo no djo ss_7 sq_8) ++ ((kCake kI kA co ca cv cr cg cw_16 cV) ++ ((kHist kI kA kC sh qo_12 qa_13 qv_14 qr_15 qg_9 qw_10 qV_11) ++ ((kRings kI no nro ne nE_1) ++ (kRow kI nro nra nrT_2 nrs_3 nrg_4))))) := hD
    refine lv_iload_n hx hb dX6_exchange_37 rfl (lv_at hl 0 rfl) ?_
    exact hret 38 r_5 (ss_7, sq_8, cw_16, qg_9, qw_10, qV_11, nE_1, nrT_2, nrs_3, nrg_4, qo_12, qa_13, qv_14, qr_15) _ _ _ (fun h => absurd h (by decide)) hw hP hD hS dX6_exchange_38
  · have hw := hw.2 c_6
    refine lv_bipush (v := (-2 : Int32)) hx hb dX6_exchange_16 (by decide) ?_
    exact hret 18 (-2 : Int32) (ss, sq, cw, qg, qw, qV, nE_1, nrT_2, nrs_3, nrg_4, qo, qa, qv, qr) _ _ _ (fun h => absurd h (by decide)) hw hP hD hS dX6_exchange_18
-- CakeMarks.undo()I
def Wp_X6_undo (ss : Int32) (sq : Int32) (cg : Int32) (cw : Nat → Int32) (cV : Nat → Nat → Int32) (qg : Nat → Int32) (qw : Nat → Nat → Int32) (qV : Nat → Nat → Nat → Int32) (Z : Int32 → Int32 → Int32 → Int32 → (Nat → Int32) → (Nat → Nat → Int32) → Prop) : Prop := ((ss < (1 : Int32) → (Z (-2 : Int32) ss sq cg cw cV)) ∧ (¬ ss < (1 : Int32) → ((ss ≤ (5 : Int32) → (vp_in (ss - (1 : Int32)) 5 ∧ (Wp_X0_become cg cw cV (qg ((ss - (1 : Int32)).toNatClampNeg)) (qw ((ss - (1 : Int32)).toNatClampNeg)) (qV ((ss - (1 : Int32)).toNatClampNeg)) (fun cg_4 cw_5 cV_6 => (Z (ss - (1 : Int32)) (ss - (1 : Int32)) (0 : Int32) cg_4 cw_5 cV_6))))) ∧ (¬ ss ≤ (5 : Int32) → (Z (-2 : Int32) ss sq cg cw cV)))))
theorem in_X6_undo_X6 : ∀ w ∈ u_ws RX6 TX6 8, w ∈ wsX6_undo := fun w h => List.mem_cons_of_mem _ (List.mem_append_left _ (List.mem_append_right _ h))
set_option maxHeartbeats 20000000 in
set_option maxRecDepth 100000 in
theorem c_X6_undo (l : Launch) (dC : Nat → ClassId) (dI : Nat → Nat → Nat) (kI kA kC : ClassId) (so : Nat) (co : Nat) (sh : Nat) (xo : Nat) (mo : Nat) (no : Nat) (djo : Nat) (ca : Nat) (cv : Nat) (cr : Nat → Nat) (qo : Nat → Nat) (qa : Nat → Nat) (qv : Nat → Nat) (qr : Nat → Nat → Nat) (sz : Nat) (ss : Int32) (sq : Int32) (cg : Int32) (cw : Nat → Int32) (cV : Nat → Nat → Int32) (qg : Nat → Int32) (qw : Nat → Nat → Int32) (qV : Nat → Nat → Nat → Int32) (Z : Int32 → Int32 → Int32 → Int32 → (Nat → Int32) → (Nat → Nat → Int32) → Prop) (hw : Wp_X6_undo ss sq cg cw cV qg qw qV Z) : zI l yX6_undo wsX6_undo ({ frames := 3, cells := 0, slots := 0, locals := 74 }) dC dI kI kA kC sz 0 0 [.ref so] ((kRoot so co sh xo mo no djo ss sq) ++ ((kCake kI kA co ca cv cr cg cw cV) ++ (kHist kI kA kC sh qo qa qv qr qg qw qV))) (fun (r : Int32) (u : Int32 × Int32 × Int32 × (Nat → Int32) × (Nat → Nat → Int32)) => Z r u.1 u.2.1 u.2.2.1 u.2.2.2.1 u.2.2.2.2) (fun (u : Int32 × Int32 × Int32 × (Nat → Int32) × (Nat → Nat → Int32)) => ((kRoot so co sh xo mo no djo u.1 u.2.1) ++ ((kCake kI kA co ca cv cr u.2.2.1 u.2.2.2.1 u.2.2.2.2) ++ (kHist kI kA kC sh qo qa qv qr qg qw qV)))) := by
  refine zI.of (cc := cX6_undo) (maxL := 1) (ty := .int) (by decide) rfl (Nat.le_of_ble_eq_true rfl) (Or.inl rfl) ?_
  intro p e s m args below meth c A Q C0 hret ls hl
  obtain ⟨hx, hb, hr, hml, hts, hown, hin, hP, hK, hD, hA, hS⟩ := C0
  have hown : s.vm.findClass RX6 = some m.cls := hown
  have hl : lv_has ls 1 [(0, .ref so)] := hl
  unfold Wp_X6_undo at hw
  refine lv_aload_n hx hb dX6_undo_0 rfl (lv_at hl 0 rfl) ?_
  refine va_get (D := (dC, dI)) (ci := 6) (v := .int ss) (C := RX6) (T := TX6) (N := 8) hx hb hts in_X6_undo_X6 hown hK hP 0 rfl rfl 2 (by decide) (hts (.fieldLink RX6 20 "CakeMarks" "states" "I") (List.mem_of_getElem? (i := 1) rfl)) (fun _ h9 => h9) rfl dX6_undo_1 ?_
  refine lv_iconst (v := (1 : Int32)) hx hb dX6_undo_4 (by decide) ?_
  refine lv_icmp_lt (tgt := 16) hx hb dX6_undo_5 (by decide) (fun c_1 => ?_) (fun c_1 => ?_)
  · have hw := hw.1 c_1
    refine lv_bipush (v := (-2 : Int32)) hx hb dX6_undo_16 (by decide) ?_
    exact hret 18 (-2 : Int32) (ss, sq, cg, cw, cV) _ _ _ (fun h => absurd h (by decide)) hw hP hD hS dX6_undo_18
  · have hw := hw.2 c_1
    refine lv_aload_n hx hb dX6_undo_8 rfl (lv_at hl 0 rfl) ?_
    refine va_get (D := (dC, dI)) (ci := 6) (v := .int ss) (C := RX6) (T := TX6) (N := 8) hx hb hts in_X6_undo_X6 hown hK hP 0 rfl rfl 2 (by decide) (hts (.fieldLink RX6 20 "CakeMarks" "states" "I") (List.mem_of_getElem? (i := 1) rfl)) (fun _ h9 => h9) rfl dX6_undo_9 ?_
    refine lv_iconst (v := (5 : Int32)) hx hb dX6_undo_12 (by decide) ?_
    refine lv_icmp_le (tgt := 19) hx hb dX6_undo_13 (by decide) (fun c_2 => ?_) (fun c_2 => ?_)
    · have hw := hw.1 c_2
      refine lv_aload_n hx hb dX6_undo_19 rfl (lv_at hl 0 rfl) ?_
      refine lv_dup hx hb dX6_undo_20 rfl ?_
      refine va_get (D := (dC, dI)) (ci := 6) (v := .int ss) (C := RX6) (T := TX6) (N := 8) hx hb hts in_X6_undo_X6 hown hK hP 0 rfl rfl 2 (by decide) (hts (.fieldLink RX6 20 "CakeMarks" "states" "I") (List.mem_of_getElem? (i := 1) rfl)) (fun _ h9 => h9) rfl dX6_undo_21 ?_
      refine lv_iconst (v := (1 : Int32)) hx hb dX6_undo_24 (by decide) ?_
      refine lv_isub hx hb dX6_undo_25 ?_
      refine va_put (D := (dC, dI)) (ci := 6) (v := .int (ss - (1 : Int32))) (ty := .int) (C := RX6) (T := TX6) (N := 8) hx hb hts in_X6_undo_X6 tyX6 tyX6_ok nmX6 hown hK hP hD hS 0 rfl rfl 2 (by decide) (hts (.fieldLink RX6 20 "CakeMarks" "states" "I") (List.mem_of_getElem? (i := 1) rfl)) (fun _ h9 => h9) rfl (by decide +kernel) rfl rfl (Nat.le_of_ble_eq_true rfl) dX6_undo_26 (fun H locs hP hD hS => ?_)
      have hP : va_P (dC, dI) vwCl ((kRoot so co sh xo mo no djo (ss - (1 : Int32)) sq) ++ ((kCake kI kA co ca cv cr cg cw cV) ++ (kHist kI kA kC sh qo qa qv qr qg qw qV))) H := hP
      have hD : va_D A ((kRoot so co sh xo mo no djo (ss - (1 : Int32)) sq) ++ ((kCake kI kA co ca cv cr cg cw cV) ++ (kHist kI kA kC sh qo qa qv qr qg qw qV))) := hD
      refine lv_aload_n hx hb dX6_undo_29 rfl (lv_at hl 0 rfl) ?_
      refine va_get (D := (dC, dI)) (ci := 6) (v := .ref co) (C := RX6) (T := TX6) (N := 8) hx hb hts in_X6_undo_X6 hown hK hP 0 rfl rfl 0 (by decide) (hts (.fieldLink RX6 10 "CakeMarks" "cake" "LCakeMarks$Cake;") (List.mem_of_getElem? (i := 2) rfl)) (fun _ h9 => h9) rfl dX6_undo_30 ?_
      refine lv_aload_n hx hb dX6_undo_33 rfl (lv_at hl 0 rfl) ?_
      refine va_get (D := (dC, dI)) (ci := 6) (v := .ref sh) (C := RX6) (T := TX6) (N := 8) hx hb hts in_X6_undo_X6 hown hK hP 0 rfl rfl 1 (by decide) (hts (.fieldLink RX6 16 "CakeMarks" "history" "[LCakeMarks$Cake;") (List.mem_of_getElem? (i := 3) rfl)) (fun _ h9 => h9) rfl dX6_undo_34 ?_
      refine lv_aload_n hx hb dX6_undo_37 rfl (lv_at hl 0 rfl) ?_
      refine va_get (D := (dC, dI)) (ci := 6) (v := .int (ss - (1 : Int32))) (C := RX6) (T := TX6) (N := 8) hx hb hts in_X6_undo_X6 hown hK hP 0 rfl rfl 2 (by decide) (hts (.fieldLink RX6 20 "CakeMarks" "states" "I") (List.mem_of_getElem? (i := 1) rfl)) (fun _ h9 => h9) rfl dX6_undo_38 ?_
      obtain ⟨h_3, hw⟩ := hw
      refine zald hx hb hK hP 8 2 rfl rfl rfl h_3 rfl dX6_undo_41 ?_
      have n_7 : (ss - (1 : Int32)).toNatClampNeg = 0 ∨ (ss - (1 : Int32)).toNatClampNeg = 1 ∨ (ss - (1 : Int32)).toNatClampNeg = 2 ∨ (ss - (1 : Int32)).toNatClampNeg = 3 ∨ (ss - (1 : Int32)).toNatClampNeg = 4 := by have := z_lt h_3; omega
      rcases n_7 with n_7 | n_7 | n_7 | n_7 | n_7
      · rw [n_7] at hw ⊢
        refine zcallV (ci := 0) (q0 := 0) (As := [.ref (qo 0)]) (rest := []) (wr := (((kRoot so co sh xo mo no djo (ss - (1 : Int32)) sq) ++ (([(sh, zr kC 5 qo)] ++ (kCake kI kA (qo 1) (qa 1) (qv 1) (qr 1) (qg 1) (qw 1) (qV 1) ++ (kCake kI kA (qo 2) (qa 2) (qv 2) (qr 2) (qg 2) (qw 2) (qV 2) ++ (kCake kI kA (qo 3) (qa 3) (qv 3) (qr 3) (qg 3) (qw 3) (qV 3) ++ kCake kI kA (qo 4) (qa 4) (qv 4) (qr 4) (qg 4) (qw 4) (qV 4))))) : va_W)) : va_W)) (Wn := fun u => ((kRoot so co sh xo mo no djo (ss - (1 : Int32)) sq) ++ ((kCake kI kA co ca cv cr u.1 u.2.1 u.2.2) ++ (kHist kI kA kC sh qo qa qv qr qg qw qV)))) ⟨hx, hb, hml, hown, hts⟩ (c_X0_become l dC dI kI kA kC co ca cv cr (qo 0) (qa 0) (qv 0) (qr 0) _ cg cw cV (qg 0) (qw 0) (qV 0) _ hw) (cwV 1 hts gX6_undo_X0_become rfl rfl rfl (by decide +kernel) ⟨Nat.le_of_ble_eq_true rfl, Nat.le_of_ble_eq_true rfl⟩) hK hP hD hS hA [1, 2, 3, 4, 5, 6, 7, 9, 10, 11, 12, 13, 14, 15] [0, 8, 16, 17, 18, 19, 20, 21, 22, 23, 24, 25, 26, 27, 28, 29, 30, 31, 32, 33, 34, 35, 36, 37, 38, 39, 40, 41, 42, 43] [0, 30, 31, 32, 33, 34, 35, 36, 1, 37, 38, 39, 40, 41, 42, 43, 2, 3, 4, 5, 6, 7, 8, 9, 10, 11, 12, 13, 14, 15, 16, 17, 18, 19, 20, 21, 22, 23, 24, 25, 26, 27, 28, 29] rfl rfl (by decide) (by decide) (by decide) (fun u => rfl) (by decide) rfl rfl rfl rfl hl.1 rfl (Nat.le_of_ble_eq_true rfl) dX6_undo_42 ⟨Nat.zero_le _, Nat.zero_le _⟩ (fun u H locs hw hP hD hS => ?_)
        obtain ⟨cg_8, cw_9, cV_10⟩ := u
        have hP : va_P (dC, dI) vwCl ((kRoot so co sh xo mo no djo (ss - (1 : Int32)) sq) ++ ((kCake kI kA co ca cv cr cg_8 cw_9 cV_10) ++ (kHist kI kA kC sh qo qa qv qr qg qw qV))) H := hP
        have hD : va_D A ((kRoot so co sh xo mo no djo (ss - (1 : Int32)) sq) ++ ((kCake kI kA co ca cv cr cg_8 cw_9 cV_10) ++ (kHist kI kA kC sh qo qa qv qr qg qw qV))) := hD
        refine lv_aload_n hx hb dX6_undo_45 rfl (lv_at hl 0 rfl) ?_
        refine lv_iconst (v := (0 : Int32)) hx hb dX6_undo_46 (by decide) ?_
        refine va_put (D := (dC, dI)) (ci := 6) (v := .int (0 : Int32)) (ty := .boolean) (C := RX6) (T := TX6) (N := 8) hx hb hts in_X6_undo_X6 tyX6 tyX6_ok nmX6 hown hK hP hD hS 0 rfl rfl 7 (by decide) (hts (.fieldLink RX6 52 "CakeMarks" "searched" "Z") (List.mem_of_getElem? (i := 4) rfl)) (fun _ h9 => h9) rfl (by decide +kernel) rfl rfl (Nat.le_of_ble_eq_true rfl) dX6_undo_47 (fun H locs hP hD hS => ?_)
        have hP : va_P (dC, dI) vwCl ((kRoot so co sh xo mo no djo (ss - (1 : Int32)) (0 : Int32)) ++ ((kCake kI kA co ca cv cr cg_8 cw_9 cV_10) ++ (kHist kI kA kC sh qo qa qv qr qg qw qV))) H := hP
        have hD : va_D A ((kRoot so co sh xo mo no djo (ss - (1 : Int32)) (0 : Int32)) ++ ((kCake kI kA co ca cv cr cg_8 cw_9 cV_10) ++ (kHist kI kA kC sh qo qa qv qr qg qw qV))) := hD
        refine lv_aload_n hx hb dX6_undo_50 rfl (lv_at hl 0 rfl) ?_
        refine va_get (D := (dC, dI)) (ci := 6) (v := .int (ss - (1 : Int32))) (C := RX6) (T := TX6) (N := 8) hx hb hts in_X6_undo_X6 hown hK hP 0 rfl rfl 2 (by decide) (hts (.fieldLink RX6 20 "CakeMarks" "states" "I") (List.mem_of_getElem? (i := 1) rfl)) (fun _ h9 => h9) rfl dX6_undo_51 ?_
        exact hret 54 (ss - (1 : Int32)) ((ss - (1 : Int32)), (0 : Int32), cg_8, cw_9, cV_10) _ _ _ (fun h => absurd h (by decide)) hw hP hD hS dX6_undo_54
      · rw [n_7] at hw ⊢
        refine zcallV (ci := 0) (q0 := 0) (As := [.ref (qo 1)]) (rest := []) (wr := (((kRoot so co sh xo mo no djo (ss - (1 : Int32)) sq) ++ (([(sh, zr kC 5 qo)] ++ (kCake kI kA (qo 0) (qa 0) (qv 0) (qr 0) (qg 0) (qw 0) (qV 0) ++ (kCake kI kA (qo 2) (qa 2) (qv 2) (qr 2) (qg 2) (qw 2) (qV 2) ++ (kCake kI kA (qo 3) (qa 3) (qv 3) (qr 3) (qg 3) (qw 3) (qV 3) ++ kCake kI kA (qo 4) (qa 4) (qv 4) (qr 4) (qg 4) (qw 4) (qV 4))))) : va_W)) : va_W)) (Wn := fun u => ((kRoot so co sh xo mo no djo (ss - (1 : Int32)) sq) ++ ((kCake kI kA co ca cv cr u.1 u.2.1 u.2.2) ++ (kHist kI kA kC sh qo qa qv qr qg qw qV)))) ⟨hx, hb, hml, hown, hts⟩ (c_X0_become l dC dI kI kA kC co ca cv cr (qo 1) (qa 1) (qv 1) (qr 1) _ cg cw cV (qg 1) (qw 1) (qV 1) _ hw) (cwV 1 hts gX6_undo_X0_become rfl rfl rfl (by decide +kernel) ⟨Nat.le_of_ble_eq_true rfl, Nat.le_of_ble_eq_true rfl⟩) hK hP hD hS hA [1, 2, 3, 4, 5, 6, 7, 16, 17, 18, 19, 20, 21, 22] [0, 8, 9, 10, 11, 12, 13, 14, 15, 23, 24, 25, 26, 27, 28, 29, 30, 31, 32, 33, 34, 35, 36, 37, 38, 39, 40, 41, 42, 43] [0, 30, 31, 32, 33, 34, 35, 36, 1, 2, 3, 4, 5, 6, 7, 8, 37, 38, 39, 40, 41, 42, 43, 9, 10, 11, 12, 13, 14, 15, 16, 17, 18, 19, 20, 21, 22, 23, 24, 25, 26, 27, 28, 29] rfl rfl (by decide) (by decide) (by decide) (fun u => rfl) (by decide) rfl rfl rfl rfl hl.1 rfl (Nat.le_of_ble_eq_true rfl) dX6_undo_42 ⟨Nat.zero_le _, Nat.zero_le _⟩ (fun u H locs hw hP hD hS => ?_)
        obtain ⟨cg_11, cw_12, cV_13⟩ := u
        have hP : va_P (dC, dI) vwCl ((kRoot so co sh xo mo no djo (ss - (1 : Int32)) sq) ++ ((kCake kI kA co ca cv cr cg_11 cw_12 cV_13) ++ (kHist kI kA kC sh qo qa qv qr qg qw qV))) H := hP
        have hD : va_D A ((kRoot so co sh xo mo no djo (ss - (1 : Int32)) sq) ++ ((kCake kI kA co ca cv cr cg_11 cw_12 cV_13) ++ (kHist kI kA kC sh qo qa qv qr qg qw qV))) := hD
        refine lv_aload_n hx hb dX6_undo_45 rfl (lv_at hl 0 rfl) ?_
        refine lv_iconst (v := (0 : Int32)) hx hb dX6_undo_46 (by decide) ?_
        refine va_put (D := (dC, dI)) (ci := 6) (v := .int (0 : Int32)) (ty := .boolean) (C := RX6) (T := TX6) (N := 8) hx hb hts in_X6_undo_X6 tyX6 tyX6_ok nmX6 hown hK hP hD hS 0 rfl rfl 7 (by decide) (hts (.fieldLink RX6 52 "CakeMarks" "searched" "Z") (List.mem_of_getElem? (i := 4) rfl)) (fun _ h9 => h9) rfl (by decide +kernel) rfl rfl (Nat.le_of_ble_eq_true rfl) dX6_undo_47 (fun H locs hP hD hS => ?_)
        have hP : va_P (dC, dI) vwCl ((kRoot so co sh xo mo no djo (ss - (1 : Int32)) (0 : Int32)) ++ ((kCake kI kA co ca cv cr cg_11 cw_12 cV_13) ++ (kHist kI kA kC sh qo qa qv qr qg qw qV))) H := hP
        have hD : va_D A ((kRoot so co sh xo mo no djo (ss - (1 : Int32)) (0 : Int32)) ++ ((kCake kI kA co ca cv cr cg_11 cw_12 cV_13) ++ (kHist kI kA kC sh qo qa qv qr qg qw qV))) := hD
        refine lv_aload_n hx hb dX6_undo_50 rfl (lv_at hl 0 rfl) ?_
        refine va_get (D := (dC, dI)) (ci := 6) (v := .int (ss - (1 : Int32))) (C := RX6) (T := TX6) (N := 8) hx hb hts in_X6_undo_X6 hown hK hP 0 rfl rfl 2 (by decide) (hts (.fieldLink RX6 20 "CakeMarks" "states" "I") (List.mem_of_getElem? (i := 1) rfl)) (fun _ h9 => h9) rfl dX6_undo_51 ?_
        exact hret 54 (ss - (1 : Int32)) ((ss - (1 : Int32)), (0 : Int32), cg_11, cw_12, cV_13) _ _ _ (fun h => absurd h (by decide)) hw hP hD hS dX6_undo_54
      · rw [n_7] at hw ⊢
        refine zcallV (ci := 0) (q0 := 0) (As := [.ref (qo 2)]) (rest := []) (wr := (((kRoot so co sh xo mo no djo (ss - (1 : Int32)) sq) ++ (([(sh, zr kC 5 qo)] ++ (kCake kI kA (qo 0) (qa 0) (qv 0) (qr 0) (qg 0) (qw 0) (qV 0) ++ (kCake kI kA (qo 1) (qa 1) (qv 1) (qr 1) (qg 1) (qw 1) (qV 1) ++ (kCake kI kA (qo 3) (qa 3) (qv 3) (qr 3) (qg 3) (qw 3) (qV 3) ++ kCake kI kA (qo 4) (qa 4) (qv 4) (qr 4) (qg 4) (qw 4) (qV 4))))) : va_W)) : va_W)) (Wn := fun u => ((kRoot so co sh xo mo no djo (ss - (1 : Int32)) sq) ++ ((kCake kI kA co ca cv cr u.1 u.2.1 u.2.2) ++ (kHist kI kA kC sh qo qa qv qr qg qw qV)))) ⟨hx, hb, hml, hown, hts⟩ (c_X0_become l dC dI kI kA kC co ca cv cr (qo 2) (qa 2) (qv 2) (qr 2) _ cg cw cV (qg 2) (qw 2) (qV 2) _ hw) (cwV 1 hts gX6_undo_X0_become rfl rfl rfl (by decide +kernel) ⟨Nat.le_of_ble_eq_true rfl, Nat.le_of_ble_eq_true rfl⟩) hK hP hD hS hA [1, 2, 3, 4, 5, 6, 7, 23, 24, 25, 26, 27, 28, 29] [0, 8, 9, 10, 11, 12, 13, 14, 15, 16, 17, 18, 19, 20, 21, 22, 30, 31, 32, 33, 34, 35, 36, 37, 38, 39, 40, 41, 42, 43] [0, 30, 31, 32, 33, 34, 35, 36, 1, 2, 3, 4, 5, 6, 7, 8, 9, 10, 11, 12, 13, 14, 15, 37, 38, 39, 40, 41, 42, 43, 16, 17, 18, 19, 20, 21, 22, 23, 24, 25, 26, 27, 28, 29] rfl rfl (by decide) (by decide) (by decide) (fun u => rfl) (by decide) rfl rfl rfl rfl hl.1 rfl (Nat.le_of_ble_eq_true rfl) dX6_undo_42 ⟨Nat.zero_le _, Nat.zero_le _⟩ (fun u H locs hw hP hD hS => ?_)
        obtain ⟨cg_14, cw_15, cV_16⟩ := u
        have hP : va_P (dC, dI) vwCl ((kRoot so co sh xo mo no djo (ss - (1 : Int32)) sq) ++ ((kCake kI kA co ca cv cr cg_14 cw_15 cV_16) ++ (kHist kI kA kC sh qo qa qv qr qg qw qV))) H := hP
        have hD : va_D A ((kRoot so co sh xo mo no djo (ss - (1 : Int32)) sq) ++ ((kCake kI kA co ca cv cr cg_14 cw_15 cV_16) ++ (kHist kI kA kC sh qo qa qv qr qg qw qV))) := hD
        refine lv_aload_n hx hb dX6_undo_45 rfl (lv_at hl 0 rfl) ?_
        refine lv_iconst (v := (0 : Int32)) hx hb dX6_undo_46 (by decide) ?_
        refine va_put (D := (dC, dI)) (ci := 6) (v := .int (0 : Int32)) (ty := .boolean) (C := RX6) (T := TX6) (N := 8) hx hb hts in_X6_undo_X6 tyX6 tyX6_ok nmX6 hown hK hP hD hS 0 rfl rfl 7 (by decide) (hts (.fieldLink RX6 52 "CakeMarks" "searched" "Z") (List.mem_of_getElem? (i := 4) rfl)) (fun _ h9 => h9) rfl (by decide +kernel) rfl rfl (Nat.le_of_ble_eq_true rfl) dX6_undo_47 (fun H locs hP hD hS => ?_)
        have hP : va_P (dC, dI) vwCl ((kRoot so co sh xo mo no djo (ss - (1 : Int32)) (0 : Int32)) ++ ((kCake kI kA co ca cv cr cg_14 cw_15 cV_16) ++ (kHist kI kA kC sh qo qa qv qr qg qw qV))) H := hP
        have hD : va_D A ((kRoot so co sh xo mo no djo (ss - (1 : Int32)) (0 : Int32)) ++ ((kCake kI kA co ca cv cr cg_14 cw_15 cV_16) ++ (kHist kI kA kC sh qo qa qv qr qg qw qV))) := hD
        refine lv_aload_n hx hb dX6_undo_50 rfl (lv_at hl 0 rfl) ?_
        refine va_get (D := (dC, dI)) (ci := 6) (v := .int (ss - (1 : Int32))) (C := RX6) (T := TX6) (N := 8) hx hb hts in_X6_undo_X6 hown hK hP 0 rfl rfl 2 (by decide) (hts (.fieldLink RX6 20 "CakeMarks" "states" "I") (List.mem_of_getElem? (i := 1) rfl)) (fun _ h9 => h9) rfl dX6_undo_51 ?_
        exact hret 54 (ss - (1 : Int32)) ((ss - (1 : Int32)), (0 : Int32), cg_14, cw_15, cV_16) _ _ _ (fun h => absurd h (by decide)) hw hP hD hS dX6_undo_54
      · rw [n_7] at hw ⊢
        refine zcallV (ci := 0) (q0 := 0) (As := [.ref (qo 3)]) (rest := []) (wr := (((kRoot so co sh xo mo no djo (ss - (1 : Int32)) sq) ++ (([(sh, zr kC 5 qo)] ++ (kCake kI kA (qo 0) (qa 0) (qv 0) (qr 0) (qg 0) (qw 0) (qV 0) ++ (kCake kI kA (qo 1) (qa 1) (qv 1) (qr 1) (qg 1) (qw 1) (qV 1) ++ (kCake kI kA (qo 2) (qa 2) (qv 2) (qr 2) (qg 2) (qw 2) (qV 2) ++ kCake kI kA (qo 4) (qa 4) (qv 4) (qr 4) (qg 4) (qw 4) (qV 4))))) : va_W)) : va_W)) (Wn := fun u => ((kRoot so co sh xo mo no djo (ss - (1 : Int32)) sq) ++ ((kCake kI kA co ca cv cr u.1 u.2.1 u.2.2) ++ (kHist kI kA kC sh qo qa qv qr qg qw qV)))) ⟨hx, hb, hml, hown, hts⟩ (c_X0_become l dC dI kI kA kC co ca cv cr (qo 3) (qa 3) (qv 3) (qr 3) _ cg cw cV (qg 3) (qw 3) (qV 3) _ hw) (cwV 1 hts gX6_undo_X0_become rfl rfl rfl (by decide +kernel) ⟨Nat.le_of_ble_eq_true rfl, Nat.le_of_ble_eq_true rfl⟩) hK hP hD hS hA [1, 2, 3, 4, 5, 6, 7, 30, 31, 32, 33, 34, 35, 36] [0, 8, 9, 10, 11, 12, 13, 14, 15, 16, 17, 18, 19, 20, 21, 22, 23, 24, 25, 26, 27, 28, 29, 37, 38, 39, 40, 41, 42, 43] [0, 30, 31, 32, 33, 34, 35, 36, 1, 2, 3, 4, 5, 6, 7, 8, 9, 10, 11, 12, 13, 14, 15, 16, 17, 18, 19, 20, 21, 22, 37, 38, 39, 40, 41, 42, 43, 23, 24, 25, 26, 27, 28, 29] rfl rfl (by decide) (by decide) (by decide) (fun u => rfl) (by decide) rfl rfl rfl rfl hl.1 rfl (Nat.le_of_ble_eq_true rfl) dX6_undo_42 ⟨Nat.zero_le _, Nat.zero_le _⟩ (fun u H locs hw hP hD hS => ?_)
        obtain ⟨cg_17, cw_18, cV_19⟩ := u
        have hP : va_P (dC, dI) vwCl ((kRoot so co sh xo mo no djo (ss - (1 : Int32)) sq) ++ ((kCake kI kA co ca cv cr cg_17 cw_18 cV_19) ++ (kHist kI kA kC sh qo qa qv qr qg qw qV))) H := hP
        have hD : va_D A ((kRoot so co sh xo mo no djo (ss - (1 : Int32)) sq) ++ ((kCake kI kA co ca cv cr cg_17 cw_18 cV_19) ++ (kHist kI kA kC sh qo qa qv qr qg qw qV))) := hD
        refine lv_aload_n hx hb dX6_undo_45 rfl (lv_at hl 0 rfl) ?_
        refine lv_iconst (v := (0 : Int32)) hx hb dX6_undo_46 (by decide) ?_
        refine va_put (D := (dC, dI)) (ci := 6) (v := .int (0 : Int32)) (ty := .boolean) (C := RX6) (T := TX6) (N := 8) hx hb hts in_X6_undo_X6 tyX6 tyX6_ok nmX6 hown hK hP hD hS 0 rfl rfl 7 (by decide) (hts (.fieldLink RX6 52 "CakeMarks" "searched" "Z") (List.mem_of_getElem? (i := 4) rfl)) (fun _ h9 => h9) rfl (by decide +kernel) rfl rfl (Nat.le_of_ble_eq_true rfl) dX6_undo_47 (fun H locs hP hD hS => ?_)
        have hP : va_P (dC, dI) vwCl ((kRoot so co sh xo mo no djo (ss - (1 : Int32)) (0 : Int32)) ++ ((kCake kI kA co ca cv cr cg_17 cw_18 cV_19) ++ (kHist kI kA kC sh qo qa qv qr qg qw qV))) H := hP
        have hD : va_D A ((kRoot so co sh xo mo no djo (ss - (1 : Int32)) (0 : Int32)) ++ ((kCake kI kA co ca cv cr cg_17 cw_18 cV_19) ++ (kHist kI kA kC sh qo qa qv qr qg qw qV))) := hD
        refine lv_aload_n hx hb dX6_undo_50 rfl (lv_at hl 0 rfl) ?_
        refine va_get (D := (dC, dI)) (ci := 6) (v := .int (ss - (1 : Int32))) (C := RX6) (T := TX6) (N := 8) hx hb hts in_X6_undo_X6 hown hK hP 0 rfl rfl 2 (by decide) (hts (.fieldLink RX6 20 "CakeMarks" "states" "I") (List.mem_of_getElem? (i := 1) rfl)) (fun _ h9 => h9) rfl dX6_undo_51 ?_
        exact hret 54 (ss - (1 : Int32)) ((ss - (1 : Int32)), (0 : Int32), cg_17, cw_18, cV_19) _ _ _ (fun h => absurd h (by decide)) hw hP hD hS dX6_undo_54
      · rw [n_7] at hw ⊢
        refine zcallV (ci := 0) (q0 := 0) (As := [.ref (qo 4)]) (rest := []) (wr := (((kRoot so co sh xo mo no djo (ss - (1 : Int32)) sq) ++ (([(sh, zr kC 5 qo)] ++ (kCake kI kA (qo 0) (qa 0) (qv 0) (qr 0) (qg 0) (qw 0) (qV 0) ++ (kCake kI kA (qo 1) (qa 1) (qv 1) (qr 1) (qg 1) (qw 1) (qV 1) ++ (kCake kI kA (qo 2) (qa 2) (qv 2) (qr 2) (qg 2) (qw 2) (qV 2) ++ kCake kI kA (qo 3) (qa 3) (qv 3) (qr 3) (qg 3) (qw 3) (qV 3))))) : va_W)) : va_W)) (Wn := fun u => ((kRoot so co sh xo mo no djo (ss - (1 : Int32)) sq) ++ ((kCake kI kA co ca cv cr u.1 u.2.1 u.2.2) ++ (kHist kI kA kC sh qo qa qv qr qg qw qV)))) ⟨hx, hb, hml, hown, hts⟩ (c_X0_become l dC dI kI kA kC co ca cv cr (qo 4) (qa 4) (qv 4) (qr 4) _ cg cw cV (qg 4) (qw 4) (qV 4) _ hw) (cwV 1 hts gX6_undo_X0_become rfl rfl rfl (by decide +kernel) ⟨Nat.le_of_ble_eq_true rfl, Nat.le_of_ble_eq_true rfl⟩) hK hP hD hS hA [1, 2, 3, 4, 5, 6, 7, 37, 38, 39, 40, 41, 42, 43] [0, 8, 9, 10, 11, 12, 13, 14, 15, 16, 17, 18, 19, 20, 21, 22, 23, 24, 25, 26, 27, 28, 29, 30, 31, 32, 33, 34, 35, 36] [0, 30, 31, 32, 33, 34, 35, 36, 1, 2, 3, 4, 5, 6, 7, 8, 9, 10, 11, 12, 13, 14, 15, 16, 17, 18, 19, 20, 21, 22, 23, 24, 25, 26, 27, 28, 29, 37, 38, 39, 40, 41, 42, 43] rfl rfl (by decide) (by decide) (by decide) (fun u => rfl) (by decide) rfl rfl rfl rfl hl.1 rfl (Nat.le_of_ble_eq_true rfl) dX6_undo_42 ⟨Nat.zero_le _, Nat.zero_le _⟩ (fun u H locs hw hP hD hS => ?_)
        obtain ⟨cg_20, cw_21, cV_22⟩ := u
        have hP : va_P (dC, dI) vwCl ((kRoot so co sh xo mo no djo (ss - (1 : Int32)) sq) ++ ((kCake kI kA co ca cv cr cg_20 cw_21 cV_22) ++ (kHist kI kA kC sh qo qa qv qr qg qw qV))) H := hP
        have hD : va_D A ((kRoot so co sh xo mo no djo (ss - (1 : Int32)) sq) ++ ((kCake kI kA co ca cv cr cg_20 cw_21 cV_22) ++ (kHist kI kA kC sh qo qa qv qr qg qw qV))) := hD
        refine lv_aload_n hx hb dX6_undo_45 rfl (lv_at hl 0 rfl) ?_
        refine lv_iconst (v := (0 : Int32)) hx hb dX6_undo_46 (by decide) ?_
        refine va_put (D := (dC, dI)) (ci := 6) (v := .int (0 : Int32)) (ty := .boolean) (C := RX6) (T := TX6) (N := 8) hx hb hts in_X6_undo_X6 tyX6 tyX6_ok nmX6 hown hK hP hD hS 0 rfl rfl 7 (by decide) (hts (.fieldLink RX6 52 "CakeMarks" "searched" "Z") (List.mem_of_getElem? (i := 4) rfl)) (fun _ h9 => h9) rfl (by decide +kernel) rfl rfl (Nat.le_of_ble_eq_true rfl) dX6_undo_47 (fun H locs hP hD hS => ?_)
        have hP : va_P (dC, dI) vwCl ((kRoot so co sh xo mo no djo (ss - (1 : Int32)) (0 : Int32)) ++ ((kCake kI kA co ca cv cr cg_20 cw_21 cV_22) ++ (kHist kI kA kC sh qo qa qv qr qg qw qV))) H := hP
        have hD : va_D A ((kRoot so co sh xo mo no djo (ss - (1 : Int32)) (0 : Int32)) ++ ((kCake kI kA co ca cv cr cg_20 cw_21 cV_22) ++ (kHist kI kA kC sh qo qa qv qr qg qw qV))) := hD
        refine lv_aload_n hx hb dX6_undo_50 rfl (lv_at hl 0 rfl) ?_
        refine va_get (D := (dC, dI)) (ci := 6) (v := .int (ss - (1 : Int32))) (C := RX6) (T := TX6) (N := 8) hx hb hts in_X6_undo_X6 hown hK hP 0 rfl rfl 2 (by decide) (hts (.fieldLink RX6 20 "CakeMarks" "states" "I") (List.mem_of_getElem? (i := 1) rfl)) (fun _ h9 => h9) rfl dX6_undo_51 ?_
        exact hret 54 (ss - (1 : Int32)) ((ss - (1 : Int32)), (0 : Int32), cg_20, cw_21, cV_22) _ _ _ (fun h => absurd h (by decide)) hw hP hD hS dX6_undo_54
    · have hw := hw.2 c_2
      refine lv_bipush (v := (-2 : Int32)) hx hb dX6_undo_16 (by decide) ?_
      exact hret 18 (-2 : Int32) (ss, sq, cg, cw, cV) _ _ _ (fun h => absurd h (by decide)) hw hP hD hS dX6_undo_18
-- CakeMarks.count(I)I
def Wp_X6_count (ss : Int32) (cg : Int32) (cw : Nat → Int32) (cV : Nat → Nat → Int32) (xl : Int32) (a1 : Int32) (Z : Int32 → Prop) : Prop := ((a1 = (0 : Int32) → (Z cg)) ∧ (a1 = (1 : Int32) → (Wp_X0_crumbsOf cw (-1 : Int32) (fun r_1 => (Z r_1)))) ∧ (a1 = (2 : Int32) → (Wp_X0_arrows cg cw cV (fun r_2 => (Z r_2)))) ∧ (a1 = (3 : Int32) → (Wp_X0_allEnvies cg cw cV (fun r_3 => (Z r_3)))) ∧ (a1 = (4 : Int32) → (Wp_X0_arrows cg cw cV (fun r_4 => ((¬ r_4 = (0 : Int32) → (Z (0 : Int32))) ∧ (r_4 = (0 : Int32) → (Z (1 : Int32))))))) ∧ (a1 = (5 : Int32) → (Wp_X0_contentGuests cg cw cV (fun r_6 => (Z r_6)))) ∧ (a1 = (6 : Int32) → (Z ss)) ∧ (a1 = (7 : Int32) → (Z xl)) ∧ ((a1.toInt < 0 ∨ 7 < a1.toInt) → (Z (-1 : Int32))))
theorem in_X6_count_X0 : ∀ w ∈ u_ws RX0 TX0 3, w ∈ wsX6_count := fun w h => List.mem_cons_of_mem _ (List.mem_append_left _ (List.mem_append_right _ h))
theorem in_X6_count_X5 : ∀ w ∈ u_ws RX5 TX5 5, w ∈ wsX6_count := fun w h => List.mem_cons_of_mem _ (List.mem_append_right _ h)
theorem in_X6_count_X6 : ∀ w ∈ u_ws RX6 TX6 8, w ∈ wsX6_count := fun w h => List.mem_cons_of_mem _ (List.mem_append_left _ (List.mem_append_left _ (List.mem_append_right _ h)))
set_option maxHeartbeats 20000000 in
set_option maxRecDepth 100000 in
theorem c_X6_count (l : Launch) (dC : Nat → ClassId) (dI : Nat → Nat → Nat) (kI kA kC : ClassId) (so : Nat) (co : Nat) (sh : Nat) (xo : Nat) (mo : Nat) (no : Nat) (djo : Nat) (ca : Nat) (cv : Nat) (cr : Nat → Nat) (xs : Nat) (xv : Nat) (sz : Nat) (ss : Int32) (sq : Int32) (cg : Int32) (cw : Nat → Int32) (cV : Nat → Nat → Int32) (xl : Int32) (xS : Nat → Int32) (xV : Nat → Int32) (xt : Int32) (xp : Int32) (a1 : Int32) (Z : Int32 → Prop) (hw : Wp_X6_count ss cg cw cV xl a1 Z) : zI l yX6_count wsX6_count ({ frames := 4, cells := 0, slots := 0, locals := 93 }) dC dI kI kA kC sz 0 0 [.ref so, .int a1] ((kRoot so co sh xo mo no djo ss sq) ++ ((kCake kI kA co ca cv cr cg cw cV) ++ (kText kI xo xs xv xl xS xV xt xp))) (fun (r : Int32) (u : Unit) => Z r ) (fun (u : Unit) => ((kRoot so co sh xo mo no djo ss sq) ++ ((kCake kI kA co ca cv cr cg cw cV) ++ (kText kI xo xs xv xl xS xV xt xp)))) := by
  refine zI.of (cc := cX6_count) (maxL := 2) (ty := .int) (by decide) rfl (Nat.le_of_ble_eq_true rfl) (Or.inl rfl) ?_
  intro p e s m args below meth c A Q C0 hret ls hl
  obtain ⟨hx, hb, hr, hml, hts, hown, hin, hP, hK, hD, hA, hS⟩ := C0
  have hown : s.vm.findClass RX6 = some m.cls := hown
  have hl : lv_has ls 2 [(0, .ref so), (1, .int a1)] := hl
  unfold Wp_X6_count at hw
  refine lv_iload_n hx hb dX6_count_0 rfl (lv_at hl 1 rfl) ?_
  rcases z_sw 7 a1 with c_7 | ⟨k, hk, c_7⟩
  · have hw := hw.2.2.2.2.2.2.2.2 c_7
    refine lv_tableOut (tgt := 118) hx hb dX6_count_1 c_7 (by decide) ?_
    refine lv_iconst (v := (-1 : Int32)) hx hb dX6_count_118 (by decide) ?_
    exact hret 119 (-1 : Int32) () _ _ _ (fun h => absurd h (by decide)) hw hP hD hS dX6_count_119
  · rcases (show k = 0 ∨ k = 1 ∨ k = 2 ∨ k = 3 ∨ k = 4 ∨ k = 5 ∨ k = 6 ∨ k = 7 by omega) with rfl | rfl | rfl | rfl | rfl | rfl | rfl | rfl
    · have c_7 : a1 = (0 : Int32) := c_7
      have hw := hw.1 c_7
      refine lv_tableIn (off := 47) (tgt := 48) hx hb dX6_count_1 (by rw [c_7]; decide) (by rw [c_7]; decide) (by rw [c_7]; decide) (by decide) ?_
      refine lv_aload_n hx hb dX6_count_48 rfl (lv_at hl 0 rfl) ?_
      refine va_get (D := (dC, dI)) (ci := 6) (v := .ref co) (C := RX6) (T := TX6) (N := 8) hx hb hts in_X6_count_X6 hown hK hP 0 rfl rfl 0 (by decide) (hts (.fieldLink RX6 10 "CakeMarks" "cake" "LCakeMarks$Cake;") (List.mem_of_getElem? (i := 1) rfl)) (fun _ h9 => h9) rfl dX6_count_49 ?_
      refine va_get (D := (dC, dI)) (ci := 0) (v := .int cg) (C := RX0) (T := TX0) (N := 3) hx hb hts in_X6_count_X0 hown hK hP 1 rfl rfl 0 (by decide) (hts (.fieldLink RX6 56 "CakeMarks$Cake" "guests" "I") (List.mem_of_getElem? (i := 2) rfl)) (fun _ h9 => h9) rfl dX6_count_52 ?_
      exact hret 55 cg () _ _ _ (fun h => absurd h (by decide)) hw hP hD hS dX6_count_55
    · have c_7 : a1 = (1 : Int32) := c_7
      have hw := hw.2.1 c_7
      refine lv_tableIn (off := 55) (tgt := 56) hx hb dX6_count_1 (by rw [c_7]; decide) (by rw [c_7]; decide) (by rw [c_7]; decide) (by decide) ?_
      refine lv_aload_n hx hb dX6_count_56 rfl (lv_at hl 0 rfl) ?_
      refine va_get (D := (dC, dI)) (ci := 6) (v := .ref co) (C := RX6) (T := TX6) (N := 8) hx hb hts in_X6_count_X6 hown hK hP 0 rfl rfl 0 (by decide) (hts (.fieldLink RX6 10 "CakeMarks" "cake" "LCakeMarks$Cake;") (List.mem_of_getElem? (i := 1) rfl)) (fun _ h9 => h9) rfl dX6_count_57 ?_
      refine lv_iconst (v := (-1 : Int32)) hx hb dX6_count_60 (by decide) ?_
      refine zcallI (ci := 0) (q0 := 0) (As := [.int (-1 : Int32)]) (rest := []) (wr := ((kRoot so co sh xo mo no djo ss sq) ++ (kText kI xo xs xv xl xS xV xt xp))) (Wn := fun u => ((kRoot so co sh xo mo no djo ss sq) ++ ((kCake kI kA co ca cv cr cg cw cV) ++ (kText kI xo xs xv xl xS xV xt xp)))) ⟨hx, hb, hml, hown, hts⟩ (c_X0_crumbsOf l dC dI kI kA kC co ca cv cr _ cg cw cV (-1 : Int32) _ hw) (cwV 1 hts gX6_count_X0_crumbsOf rfl rfl rfl (by decide +kernel) ⟨Nat.le_of_ble_eq_true rfl, Nat.le_of_ble_eq_true rfl⟩) hK hP hD hS hA [1, 2, 3, 4, 5, 6, 7] [0, 8, 9, 10] [0, 4, 5, 6, 7, 8, 9, 10, 1, 2, 3] rfl rfl (by decide) (by decide) (by decide) (fun u => rfl) (by decide) rfl rfl rfl rfl hl.1 rfl (Nat.le_of_ble_eq_true rfl) dX6_count_61 ⟨Nat.zero_le _, Nat.zero_le _⟩ (fun r_1 u H locs hw hP hD hS => ?_)
      have hP : va_P (dC, dI) vwCl ((kRoot so co sh xo mo no djo ss sq) ++ ((kCake kI kA co ca cv cr cg cw cV) ++ (kText kI xo xs xv xl xS xV xt xp))) H := hP
      have hD : va_D A ((kRoot so co sh xo mo no djo ss sq) ++ ((kCake kI kA co ca cv cr cg cw cV) ++ (kText kI xo xs xv xl xS xV xt xp))) := hD
      exact hret 64 r_1 () _ _ _ (fun h => absurd h (by decide)) hw hP hD hS dX6_count_64
    · have c_7 : a1 = (2 : Int32) := c_7
      have hw := hw.2.2.1 c_7
      refine lv_tableIn (off := 64) (tgt := 65) hx hb dX6_count_1 (by rw [c_7]; decide) (by rw [c_7]; decide) (by rw [c_7]; decide) (by decide) ?_
      refine lv_aload_n hx hb dX6_count_65 rfl (lv_at hl 0 rfl) ?_
      refine va_get (D := (dC, dI)) (ci := 6) (v := .ref co) (C := RX6) (T := TX6) (N := 8) hx hb hts in_X6_count_X6 hown hK hP 0 rfl rfl 0 (by decide) (hts (.fieldLink RX6 10 "CakeMarks" "cake" "LCakeMarks$Cake;") (List.mem_of_getElem? (i := 1) rfl)) (fun _ h9 => h9) rfl dX6_count_66 ?_
      refine zcallI (ci := 0) (q0 := 0) (As := []) (rest := []) (wr := ((kRoot so co sh xo mo no djo ss sq) ++ (kText kI xo xs xv xl xS xV xt xp))) (Wn := fun u => ((kRoot so co sh xo mo no djo ss sq) ++ ((kCake kI kA co ca cv cr cg cw cV) ++ (kText kI xo xs xv xl xS xV xt xp)))) ⟨hx, hb, hml, hown, hts⟩ (c_X0_arrows l dC dI kI kA kC co ca cv cr _ cg cw cV _ hw) (cwV 0 hts gX6_count_X0_arrows rfl rfl rfl (by decide +kernel) ⟨Nat.le_of_ble_eq_true rfl, Nat.le_of_ble_eq_true rfl⟩) hK hP hD hS hA [1, 2, 3, 4, 5, 6, 7] [0, 8, 9, 10] [0, 4, 5, 6, 7, 8, 9, 10, 1, 2, 3] rfl rfl (by decide) (by decide) (by decide) (fun u => rfl) (by decide) rfl rfl rfl rfl hl.1 rfl (Nat.le_of_ble_eq_true rfl) dX6_count_69 ⟨Nat.zero_le _, Nat.zero_le _⟩ (fun r_2 u H locs hw hP hD hS => ?_)
      have hP : va_P (dC, dI) vwCl ((kRoot so co sh xo mo no djo ss sq) ++ ((kCake kI kA co ca cv cr cg cw cV) ++ (kText kI xo xs xv xl xS xV xt xp))) H := hP
      have hD : va_D A ((kRoot so co sh xo mo no djo ss sq) ++ ((kCake kI kA co ca cv cr cg cw cV) ++ (kText kI xo xs xv xl xS xV xt xp))) := hD
      exact hret 72 r_2 () _ _ _ (fun h => absurd h (by decide)) hw hP hD hS dX6_count_72
    · have c_7 : a1 = (3 : Int32) := c_7
      have hw := hw.2.2.2.1 c_7
      refine lv_tableIn (off := 72) (tgt := 73) hx hb dX6_count_1 (by rw [c_7]; decide) (by rw [c_7]; decide) (by rw [c_7]; decide) (by decide) ?_
      refine lv_aload_n hx hb dX6_count_73 rfl (lv_at hl 0 rfl) ?_
      refine va_get (D := (dC, dI)) (ci := 6) (v := .ref co) (C := RX6) (T := TX6) (N := 8) hx hb hts in_X6_count_X6 hown hK hP 0 rfl rfl 0 (by decide) (hts (.fieldLink RX6 10 "CakeMarks" "cake" "LCakeMarks$Cake;") (List.mem_of_getElem? (i := 1) rfl)) (fun _ h9 => h9) rfl dX6_count_74 ?_
      refine zcallI (ci := 0) (q0 := 0) (As := []) (rest := []) (wr := ((kRoot so co sh xo mo no djo ss sq) ++ (kText kI xo xs xv xl xS xV xt xp))) (Wn := fun u => ((kRoot so co sh xo mo no djo ss sq) ++ ((kCake kI kA co ca cv cr cg cw cV) ++ (kText kI xo xs xv xl xS xV xt xp)))) ⟨hx, hb, hml, hown, hts⟩ (c_X0_allEnvies l dC dI kI kA kC co ca cv cr _ cg cw cV _ hw) (cwV 0 hts gX6_count_X0_allEnvies rfl rfl rfl (by decide +kernel) ⟨Nat.le_of_ble_eq_true rfl, Nat.le_of_ble_eq_true rfl⟩) hK hP hD hS hA [1, 2, 3, 4, 5, 6, 7] [0, 8, 9, 10] [0, 4, 5, 6, 7, 8, 9, 10, 1, 2, 3] rfl rfl (by decide) (by decide) (by decide) (fun u => rfl) (by decide) rfl rfl rfl rfl hl.1 rfl (Nat.le_of_ble_eq_true rfl) dX6_count_77 ⟨Nat.zero_le _, Nat.zero_le _⟩ (fun r_3 u H locs hw hP hD hS => ?_)
      have hP : va_P (dC, dI) vwCl ((kRoot so co sh xo mo no djo ss sq) ++ ((kCake kI kA co ca cv cr cg cw cV) ++ (kText kI xo xs xv xl xS xV xt xp))) H := hP
      have hD : va_D A ((kRoot so co sh xo mo no djo ss sq) ++ ((kCake kI kA co ca cv cr cg cw cV) ++ (kText kI xo xs xv xl xS xV xt xp))) := hD
      exact hret 80 r_3 () _ _ _ (fun h => absurd h (by decide)) hw hP hD hS dX6_count_80
    · have c_7 : a1 = (4 : Int32) := c_7
      have hw := hw.2.2.2.2.1 c_7
      refine lv_tableIn (off := 80) (tgt := 81) hx hb dX6_count_1 (by rw [c_7]; decide) (by rw [c_7]; decide) (by rw [c_7]; decide) (by decide) ?_
      refine lv_aload_n hx hb dX6_count_81 rfl (lv_at hl 0 rfl) ?_
      refine va_get (D := (dC, dI)) (ci := 6) (v := .ref co) (C := RX6) (T := TX6) (N := 8) hx hb hts in_X6_count_X6 hown hK hP 0 rfl rfl 0 (by decide) (hts (.fieldLink RX6 10 "CakeMarks" "cake" "LCakeMarks$Cake;") (List.mem_of_getElem? (i := 1) rfl)) (fun _ h9 => h9) rfl dX6_count_82 ?_
      refine zcallI (ci := 0) (q0 := 0) (As := []) (rest := []) (wr := ((kRoot so co sh xo mo no djo ss sq) ++ (kText kI xo xs xv xl xS xV xt xp))) (Wn := fun u => ((kRoot so co sh xo mo no djo ss sq) ++ ((kCake kI kA co ca cv cr cg cw cV) ++ (kText kI xo xs xv xl xS xV xt xp)))) ⟨hx, hb, hml, hown, hts⟩ (c_X0_arrows l dC dI kI kA kC co ca cv cr _ cg cw cV _ hw) (cwV 0 hts gX6_count_X0_arrows rfl rfl rfl (by decide +kernel) ⟨Nat.le_of_ble_eq_true rfl, Nat.le_of_ble_eq_true rfl⟩) hK hP hD hS hA [1, 2, 3, 4, 5, 6, 7] [0, 8, 9, 10] [0, 4, 5, 6, 7, 8, 9, 10, 1, 2, 3] rfl rfl (by decide) (by decide) (by decide) (fun u => rfl) (by decide) rfl rfl rfl rfl hl.1 rfl (Nat.le_of_ble_eq_true rfl) dX6_count_85 ⟨Nat.zero_le _, Nat.zero_le _⟩ (fun r_4 u H locs hw hP hD hS => ?_)
      have hP : va_P (dC, dI) vwCl ((kRoot so co sh xo mo no djo ss sq) ++ ((kCake kI kA co ca cv cr cg cw cV) ++ (kText kI xo xs xv xl xS xV xt xp))) H := hP
      have hD : va_D A ((kRoot so co sh xo mo no djo ss sq) ++ ((kCake kI kA co ca cv cr cg cw cV) ++ (kText kI xo xs xv xl xS xV xt xp))) := hD
      refine lv_if_ne (tgt := 95) hx hb dX6_count_88 (by decide) (fun c_5 => ?_) (fun c_5 => ?_)
      · have hw := hw.1 c_5
        refine lv_iconst (v := (0 : Int32)) hx hb dX6_count_95 (by decide) ?_
        exact hret 96 (0 : Int32) () _ _ _ (fun h => absurd h (by decide)) hw hP hD hS dX6_count_96
      · have hw := hw.2 c_5
        refine lv_iconst (v := (1 : Int32)) hx hb dX6_count_91 (by decide) ?_
        refine lv_goto (tgt := 96) hx hb dX6_count_92 (by decide) ?_
        exact hret 96 (1 : Int32) () _ _ _ (fun h => absurd h (by decide)) hw hP hD hS dX6_count_96
    · have c_7 : a1 = (5 : Int32) := c_7
      have hw := hw.2.2.2.2.2.1 c_7
      refine lv_tableIn (off := 96) (tgt := 97) hx hb dX6_count_1 (by rw [c_7]; decide) (by rw [c_7]; decide) (by rw [c_7]; decide) (by decide) ?_
      refine lv_aload_n hx hb dX6_count_97 rfl (lv_at hl 0 rfl) ?_
      refine va_get (D := (dC, dI)) (ci := 6) (v := .ref co) (C := RX6) (T := TX6) (N := 8) hx hb hts in_X6_count_X6 hown hK hP 0 rfl rfl 0 (by decide) (hts (.fieldLink RX6 10 "CakeMarks" "cake" "LCakeMarks$Cake;") (List.mem_of_getElem? (i := 1) rfl)) (fun _ h9 => h9) rfl dX6_count_98 ?_
      refine zcallI (ci := 0) (q0 := 0) (As := []) (rest := []) (wr := ((kRoot so co sh xo mo no djo ss sq) ++ (kText kI xo xs xv xl xS xV xt xp))) (Wn := fun u => ((kRoot so co sh xo mo no djo ss sq) ++ ((kCake kI kA co ca cv cr cg cw cV) ++ (kText kI xo xs xv xl xS xV xt xp)))) ⟨hx, hb, hml, hown, hts⟩ (c_X0_contentGuests l dC dI kI kA kC co ca cv cr _ cg cw cV _ hw) (cwV 0 hts gX6_count_X0_contentGuests rfl rfl rfl (by decide +kernel) ⟨Nat.le_of_ble_eq_true rfl, Nat.le_of_ble_eq_true rfl⟩) hK hP hD hS hA [1, 2, 3, 4, 5, 6, 7] [0, 8, 9, 10] [0, 4, 5, 6, 7, 8, 9, 10, 1, 2, 3] rfl rfl (by decide) (by decide) (by decide) (fun u => rfl) (by decide) rfl rfl rfl rfl hl.1 rfl (Nat.le_of_ble_eq_true rfl) dX6_count_101 ⟨Nat.zero_le _, Nat.zero_le _⟩ (fun r_6 u H locs hw hP hD hS => ?_)
      have hP : va_P (dC, dI) vwCl ((kRoot so co sh xo mo no djo ss sq) ++ ((kCake kI kA co ca cv cr cg cw cV) ++ (kText kI xo xs xv xl xS xV xt xp))) H := hP
      have hD : va_D A ((kRoot so co sh xo mo no djo ss sq) ++ ((kCake kI kA co ca cv cr cg cw cV) ++ (kText kI xo xs xv xl xS xV xt xp))) := hD
      exact hret 104 r_6 () _ _ _ (fun h => absurd h (by decide)) hw hP hD hS dX6_count_104
    · have c_7 : a1 = (6 : Int32) := c_7
      have hw := hw.2.2.2.2.2.2.1 c_7
      refine lv_tableIn (off := 104) (tgt := 105) hx hb dX6_count_1 (by rw [c_7]; decide) (by rw [c_7]; decide) (by rw [c_7]; decide) (by decide) ?_
      refine lv_aload_n hx hb dX6_count_105 rfl (lv_at hl 0 rfl) ?_
      refine va_get (D := (dC, dI)) (ci := 6) (v := .int ss) (C := RX6) (T := TX6) (N := 8) hx hb hts in_X6_count_X6 hown hK hP 0 rfl rfl 2 (by decide) (hts (.fieldLink RX6 20 "CakeMarks" "states" "I") (List.mem_of_getElem? (i := 3) rfl)) (fun _ h9 => h9) rfl dX6_count_106 ?_
      exact hret 109 ss () _ _ _ (fun h => absurd h (by decide)) hw hP hD hS dX6_count_109
    · have c_7 : a1 = (7 : Int32) := c_7
      have hw := hw.2.2.2.2.2.2.2.1 c_7
      refine lv_tableIn (off := 109) (tgt := 110) hx hb dX6_count_1 (by rw [c_7]; decide) (by rw [c_7]; decide) (by rw [c_7]; decide) (by decide) ?_
      refine lv_aload_n hx hb dX6_count_110 rfl (lv_at hl 0 rfl) ?_
      refine va_get (D := (dC, dI)) (ci := 6) (v := .ref xo) (C := RX6) (T := TX6) (N := 8) hx hb hts in_X6_count_X6 hown hK hP 0 rfl rfl 3 (by decide) (hts (.fieldLink RX6 27 "CakeMarks" "text" "LCakeMarks$ValueText;") (List.mem_of_getElem? (i := 4) rfl)) (fun _ h9 => h9) rfl dX6_count_111 ?_
      refine va_get (D := (dC, dI)) (ci := 5) (v := .int xl) (C := RX5) (T := TX5) (N := 5) hx hb hts in_X6_count_X5 hown hK hP 8 rfl rfl 0 (by decide) (hts (.fieldLink RX6 82 "CakeMarks$ValueText" "length" "I") (List.mem_of_getElem? (i := 5) rfl)) (fun _ h9 => h9) rfl dX6_count_114 ?_
      exact hret 117 xl () _ _ _ (fun h => absurd h (by decide)) hw hP hD hS dX6_count_117
-- CakeMarks.commonDivisor(II)I
def B_X6_commonDivisor_7 (a0 : Int32) (a1 : Int32) (Z : Int32 → Prop) (J7 : Int32 → Int32 → Int32 → Prop) (x2 : Int32) (x3 : Int32) (x4 : Int32) : Prop := ((x3 = (0 : Int32) → (Z x2)) ∧ (¬ x3 = (0 : Int32) → (((1000000 : Int32) ≤ x4 → (Z x2)) ∧ (¬ (1000000 : Int32) ≤ x4 → (J7 x3 (x2 - x2 / x3 * x3) (x4 + (1 : Int32)))))))
def Wp_X6_commonDivisor_7 (a0 : Int32) (a1 : Int32) (Z : Int32 → Prop) (x2 : Int32) (x3 : Int32) (x4 : Int32) : Prop := ∀ (I7 : Int32 → Int32 → Int32 → Prop), (∀ (J7 : Int32 → Int32 → Int32 → Prop), (∀ (x2 : Int32) (x3 : Int32) (x4 : Int32), J7 x2 x3 x4 → I7 x2 x3 x4) → ∀ (x2 : Int32) (x3 : Int32) (x4 : Int32), B_X6_commonDivisor_7 a0 a1 Z J7 x2 x3 x4 → I7 x2 x3 x4) → I7 x2 x3 x4
theorem F_X6_commonDivisor_7 (a0 : Int32) (a1 : Int32) (Z : Int32 → Prop) (x2 : Int32) (x3 : Int32) (x4 : Int32) (h : B_X6_commonDivisor_7 a0 a1 Z (Wp_X6_commonDivisor_7 a0 a1 Z) x2 x3 x4) : Wp_X6_commonDivisor_7 a0 a1 Z x2 x3 x4 := fun I7 h7 => h7 _ (fun x2 x3 x4 hx => hx I7 h7) x2 x3 x4 h
def Wp_X6_commonDivisor (a0 : Int32) (a1 : Int32) (Z : Int32 → Prop) : Prop := ((Wp_X6_commonDivisor_7 a0 a1 Z) a0 a1 (0 : Int32))
set_option maxHeartbeats 20000000 in
set_option maxRecDepth 100000 in
theorem c_X6_commonDivisor (l : Launch) (dC : Nat → ClassId) (dI : Nat → Nat → Nat) (kI kA kC : ClassId) (sz : Nat) (a0 : Int32) (a1 : Int32) (Z : Int32 → Prop) (hw : Wp_X6_commonDivisor a0 a1 Z) : zI l yX6_commonDivisor wsX6_commonDivisor ({ frames := 0, cells := 0, slots := 0, locals := 0 }) dC dI kI kA kC sz 0 0 [.int a0, .int a1] ([] : va_W) (fun (r : Int32) (u : Unit) => Z r ) (fun (u : Unit) => ([] : va_W)) := by
  refine zI.of (cc := cX6_commonDivisor) (maxL := 6) (ty := .int) (by decide) rfl (Nat.le_of_ble_eq_true rfl) (Or.inl rfl) ?_
  intro p e s m args below meth c A Q C0 hret ls hl
  obtain ⟨hx, hb, hr, hml, hts, hown, hin, hP, hK, hD, hA, hS⟩ := C0
  have hown : s.vm.findClass RX6 = some m.cls := hown
  have hl : lv_has ls 6 [(0, .int a0), (1, .int a1)] := hl
  have key : ∀ (J7 : Int32 → Int32 → Int32 → Prop) (hJ7 : ∀ (x2 : Int32) (x3 : Int32) (x4 : Int32), J7 x2 x3 x4 → ∀ (ls : Array Slot) (H : Heap) (locs : List Loc), lv_has ls 6 [(2, .int x2), (3, .int x3), (4, .int x4)] → va_P (dC, dI) vwCl ([] : va_W) H → va_D A ([] : va_W) → va_S A s.heap H locs → W p l e ({ frames := 0, cells := 0, slots := 0, locals := 0 }) s m args below meth c H locs 0 0 Q (F0 m 7 ls [])), (∀ (x2 : Int32) (x3 : Int32) (x4 : Int32), B_X6_commonDivisor_7 a0 a1 Z J7 x2 x3 x4 → ∀ (ls : Array Slot) (H : Heap) (locs : List Loc), lv_has ls 6 [(2, .int x2), (3, .int x3), (4, .int x4)] → va_P (dC, dI) vwCl ([] : va_W) H → va_D A ([] : va_W) → va_S A s.heap H locs → W p l e ({ frames := 0, cells := 0, slots := 0, locals := 0 }) s m args below meth c H locs 0 0 Q (F0 m 7 ls [])) := by
    intro J7 hJ7
    · intro x2 x3 x4 hw ls H locs hl hP hD hS
      unfold B_X6_commonDivisor_7 at hw
      refine lv_iload_n hx hb dX6_commonDivisor_7 rfl (lv_at hl 1 rfl) ?_
      refine lv_if_eq (tgt := 34) hx hb dX6_commonDivisor_8 (by decide) (fun c_1 => ?_) (fun c_1 => ?_)
      · have hw := hw.1 c_1
        refine lv_iload_n hx hb dX6_commonDivisor_34 rfl (lv_at hl 0 rfl) ?_
        exact hret 35 x2 () _ _ _ (fun h => absurd h (by decide)) hw hP hD hS dX6_commonDivisor_35
      · have hw := hw.2 c_1
        refine lv_iload hx hb dX6_commonDivisor_11 (lv_at hl 2 rfl) ?_
        refine lv_ldc (v := (1000000 : Int32)) hx hb hown (hts (.constant RX6 221 (1000000)) (List.mem_of_getElem? (i := 1) rfl)) dX6_commonDivisor_13 ?_
        refine lv_icmp_ge (tgt := 34) hx hb dX6_commonDivisor_15 (by decide) (fun c_2 => ?_) (fun c_2 => ?_)
        · have hw := hw.1 c_2
          refine lv_iload_n hx hb dX6_commonDivisor_34 rfl (lv_at hl 0 rfl) ?_
          exact hret 35 x2 () _ _ _ (fun h => absurd h (by decide)) hw hP hD hS dX6_commonDivisor_35
        · have hw := hw.2 c_2
          refine lv_iload_n hx hb dX6_commonDivisor_18 rfl (lv_at hl 0 rfl) ?_
          refine lv_iload_n hx hb dX6_commonDivisor_19 rfl (lv_at hl 1 rfl) ?_
          refine lv_irem hx hb dX6_commonDivisor_20 c_1 ?_
          refine lv_istore (lv' := [(5, .int (x2 - x2 / x3 * x3)), (2, .int x2), (3, .int x3), (4, .int x4)]) hx hb dX6_commonDivisor_21 hl (by decide) rfl (fun ls hl => ?_)
          refine lv_iload_n hx hb dX6_commonDivisor_23 rfl (lv_at hl 2 rfl) ?_
          refine lv_istore_n (lv' := [(2, .int x3), (5, .int (x2 - x2 / x3 * x3)), (3, .int x3), (4, .int x4)]) hx hb dX6_commonDivisor_24 rfl hl (by decide) rfl (fun ls hl => ?_)
          refine lv_iload hx hb dX6_commonDivisor_25 (lv_at hl 1 rfl) ?_
          refine lv_istore_n (lv' := [(3, .int (x2 - x2 / x3 * x3)), (2, .int x3), (5, .int (x2 - x2 / x3 * x3)), (4, .int x4)]) hx hb dX6_commonDivisor_27 rfl hl (by decide) rfl (fun ls hl => ?_)
          refine lv_iinc (v := (x4 + (1 : Int32))) (lv' := [(4, .int (x4 + (1 : Int32))), (3, .int (x2 - x2 / x3 * x3)), (2, .int x3), (5, .int (x2 - x2 / x3 * x3))]) hx hb dX6_commonDivisor_28 hl (k := 3) rfl (by first | rfl | decide) (by decide) rfl (fun ls hl => ?_)
          refine lv_goto (tgt := 7) hx hb dX6_commonDivisor_31 (by decide) ?_
          exact hJ7 x3 (x2 - x2 / x3 * x3) (x4 + (1 : Int32)) hw ls _ _ (lv_sub hl [2, 1, 0] rfl) hP hD hS
  have hJ7 : ∀ (x2 : Int32) (x3 : Int32) (x4 : Int32), Wp_X6_commonDivisor_7 a0 a1 Z x2 x3 x4 → ∀ (ls : Array Slot) (H : Heap) (locs : List Loc), lv_has ls 6 [(2, .int x2), (3, .int x3), (4, .int x4)] → va_P (dC, dI) vwCl ([] : va_W) H → va_D A ([] : va_W) → va_S A s.heap H locs → W p l e ({ frames := 0, cells := 0, slots := 0, locals := 0 }) s m args below meth c H locs 0 0 Q (F0 m 7 ls []) := fun x2 x3 x4 hv => hv (fun x2 x3 x4 => ∀ (ls : Array Slot) (H : Heap) (locs : List Loc), lv_has ls 6 [(2, .int x2), (3, .int x3), (4, .int x4)] → va_P (dC, dI) vwCl ([] : va_W) H → va_D A ([] : va_W) → va_S A s.heap H locs → W p l e ({ frames := 0, cells := 0, slots := 0, locals := 0 }) s m args below meth c H locs 0 0 Q (F0 m 7 ls [])) (fun J7 q7 => (key J7 q7))
  unfold Wp_X6_commonDivisor at hw
  refine lv_iload_n hx hb dX6_commonDivisor_0 rfl (lv_at hl 0 rfl) ?_
  refine lv_istore_n (lv' := [(2, .int a0), (0, .int a0), (1, .int a1)]) hx hb dX6_commonDivisor_1 rfl hl (by decide) rfl (fun ls hl => ?_)
  refine lv_iload_n hx hb dX6_commonDivisor_2 rfl (lv_at hl 2 rfl) ?_
  refine lv_istore_n (lv' := [(3, .int a1), (2, .int a0), (0, .int a0), (1, .int a1)]) hx hb dX6_commonDivisor_3 rfl hl (by decide) rfl (fun ls hl => ?_)
  refine lv_iconst (v := (0 : Int32)) hx hb dX6_commonDivisor_4 (by decide) ?_
  refine lv_istore (lv' := [(4, .int (0 : Int32)), (3, .int a1), (2, .int a0), (0, .int a0), (1, .int a1)]) hx hb dX6_commonDivisor_5 hl (by decide) rfl (fun ls hl => ?_)
  exact hJ7 a0 a1 (0 : Int32) hw ls _ _ (lv_sub hl [2, 1, 0] rfl) hP hD hS
-- CakeMarks.lowestNumerator(II)I
def Wp_X6_lowestNumerator (a0 : Int32) (a1 : Int32) (Z : Int32 → Prop) : Prop := (Wp_X6_commonDivisor a0 a1 (fun r_1 => ((a1 = (0 : Int32) → (Z (0 : Int32))) ∧ (¬ a1 = (0 : Int32) → ((¬ r_1 = (0 : Int32) → (Z (a0 / r_1))) ∧ (r_1 = (0 : Int32) → (Z (0 : Int32))))))))
set_option maxHeartbeats 20000000 in
set_option maxRecDepth 100000 in
theorem c_X6_lowestNumerator (l : Launch) (dC : Nat → ClassId) (dI : Nat → Nat → Nat) (kI kA kC : ClassId) (sz : Nat) (a0 : Int32) (a1 : Int32) (Z : Int32 → Prop) (hw : Wp_X6_lowestNumerator a0 a1 Z) : zI l yX6_lowestNumerator wsX6_lowestNumerator ({ frames := 1, cells := 0, slots := 0, locals := 25 }) dC dI kI kA kC sz 0 0 [.int a0, .int a1] ([] : va_W) (fun (r : Int32) (u : Unit) => Z r ) (fun (u : Unit) => ([] : va_W)) := by
  refine zI.of (cc := cX6_lowestNumerator) (maxL := 3) (ty := .int) (by decide) rfl (Nat.le_of_ble_eq_true rfl) (Or.inl rfl) ?_
  intro p e s m args below meth c A Q C0 hret ls hl
  obtain ⟨hx, hb, hr, hml, hts, hown, hin, hP, hK, hD, hA, hS⟩ := C0
  have hown : s.vm.findClass RX6 = some m.cls := hown
  have hl : lv_has ls 3 [(0, .int a0), (1, .int a1)] := hl
  unfold Wp_X6_lowestNumerator at hw
  refine lv_iload_n hx hb dX6_lowestNumerator_0 rfl (lv_at hl 0 rfl) ?_
  refine lv_iload_n hx hb dX6_lowestNumerator_1 rfl (lv_at hl 1 rfl) ?_
  refine zcallS (As := [.int a0, .int a1]) (rest := []) (wr := ([] : va_W)) (Wn := fun u => ([] : va_W)) ⟨hx, hb, hml, hown, hts⟩ (c_X6_commonDivisor l dC dI kI kA kC _ a0 a1 _ hw) (va_cwS 2 hts gX6_lowestNumerator_X6_commonDivisor rfl rfl rfl (by decide +kernel) ⟨Nat.le_of_ble_eq_true rfl, Nat.le_of_ble_eq_true rfl⟩) hK hP hD hS hA [] [] [] rfl rfl (by decide) (by decide) (by decide) (fun u => rfl) (by decide) rfl hl.1 rfl (Nat.le_of_ble_eq_true rfl) dX6_lowestNumerator_2 ⟨Nat.zero_le _, Nat.zero_le _⟩ (fun r_1 u H locs hw hP hD hS => ?_)
  have hP : va_P (dC, dI) vwCl ([] : va_W) H := hP
  have hD : va_D A ([] : va_W) := hD
  refine lv_istore_n (lv' := [(2, .int r_1), (0, .int a0), (1, .int a1)]) hx hb dX6_lowestNumerator_5 rfl hl (by decide) rfl (fun ls hl => ?_)
  refine lv_iload_n hx hb dX6_lowestNumerator_6 rfl (lv_at hl 2 rfl) ?_
  refine lv_if_eq (tgt := 14) hx hb dX6_lowestNumerator_7 (by decide) (fun c_2 => ?_) (fun c_2 => ?_)
  · have hw := hw.1 c_2
    refine lv_iconst (v := (0 : Int32)) hx hb dX6_lowestNumerator_14 (by decide) ?_
    refine lv_goto (tgt := 21) hx hb dX6_lowestNumerator_15 (by decide) ?_
    exact hret 21 (0 : Int32) () _ _ _ (fun h => absurd h (by decide)) hw hP hD hS dX6_lowestNumerator_21
  · have hw := hw.2 c_2
    refine lv_iload_n hx hb dX6_lowestNumerator_10 rfl (lv_at hl 0 rfl) ?_
    refine lv_if_ne (tgt := 18) hx hb dX6_lowestNumerator_11 (by decide) (fun c_3 => ?_) (fun c_3 => ?_)
    · have hw := hw.1 c_3
      refine lv_iload_n hx hb dX6_lowestNumerator_18 rfl (lv_at hl 1 rfl) ?_
      refine lv_iload_n hx hb dX6_lowestNumerator_19 rfl (lv_at hl 0 rfl) ?_
      refine lv_idiv hx hb dX6_lowestNumerator_20 c_3 ?_
      exact hret 21 (a0 / r_1) () _ _ _ (fun h => absurd h (by decide)) hw hP hD hS dX6_lowestNumerator_21
    · have hw := hw.2 c_3
      refine lv_iconst (v := (0 : Int32)) hx hb dX6_lowestNumerator_14 (by decide) ?_
      refine lv_goto (tgt := 21) hx hb dX6_lowestNumerator_15 (by decide) ?_
      exact hret 21 (0 : Int32) () _ _ _ (fun h => absurd h (by decide)) hw hP hD hS dX6_lowestNumerator_21
-- CakeMarks.lowestDenominator(II)I
def Wp_X6_lowestDenominator (a0 : Int32) (a1 : Int32) (Z : Int32 → Prop) : Prop := (Wp_X6_commonDivisor a0 a1 (fun r_1 => ((a1 = (0 : Int32) → (Z (1 : Int32))) ∧ (¬ a1 = (0 : Int32) → ((¬ r_1 = (0 : Int32) → (Z (a1 / r_1))) ∧ (r_1 = (0 : Int32) → (Z (1 : Int32))))))))
set_option maxHeartbeats 20000000 in
set_option maxRecDepth 100000 in
theorem c_X6_lowestDenominator (l : Launch) (dC : Nat → ClassId) (dI : Nat → Nat → Nat) (kI kA kC : ClassId) (sz : Nat) (a0 : Int32) (a1 : Int32) (Z : Int32 → Prop) (hw : Wp_X6_lowestDenominator a0 a1 Z) : zI l yX6_lowestDenominator wsX6_lowestDenominator ({ frames := 1, cells := 0, slots := 0, locals := 25 }) dC dI kI kA kC sz 0 0 [.int a0, .int a1] ([] : va_W) (fun (r : Int32) (u : Unit) => Z r ) (fun (u : Unit) => ([] : va_W)) := by
  refine zI.of (cc := cX6_lowestDenominator) (maxL := 3) (ty := .int) (by decide) rfl (Nat.le_of_ble_eq_true rfl) (Or.inl rfl) ?_
  intro p e s m args below meth c A Q C0 hret ls hl
  obtain ⟨hx, hb, hr, hml, hts, hown, hin, hP, hK, hD, hA, hS⟩ := C0
  have hown : s.vm.findClass RX6 = some m.cls := hown
  have hl : lv_has ls 3 [(0, .int a0), (1, .int a1)] := hl
  unfold Wp_X6_lowestDenominator at hw
  refine lv_iload_n hx hb dX6_lowestDenominator_0 rfl (lv_at hl 0 rfl) ?_
  refine lv_iload_n hx hb dX6_lowestDenominator_1 rfl (lv_at hl 1 rfl) ?_
  refine zcallS (As := [.int a0, .int a1]) (rest := []) (wr := ([] : va_W)) (Wn := fun u => ([] : va_W)) ⟨hx, hb, hml, hown, hts⟩ (c_X6_commonDivisor l dC dI kI kA kC _ a0 a1 _ hw) (va_cwS 2 hts gX6_lowestDenominator_X6_commonDivisor rfl rfl rfl (by decide +kernel) ⟨Nat.le_of_ble_eq_true rfl, Nat.le_of_ble_eq_true rfl⟩) hK hP hD hS hA [] [] [] rfl rfl (by decide) (by decide) (by decide) (fun u => rfl) (by decide) rfl hl.1 rfl (Nat.le_of_ble_eq_true rfl) dX6_lowestDenominator_2 ⟨Nat.zero_le _, Nat.zero_le _⟩ (fun r_1 u H locs hw hP hD hS => ?_)
  have hP : va_P (dC, dI) vwCl ([] : va_W) H := hP
  have hD : va_D A ([] : va_W) := hD
  refine lv_istore_n (lv' := [(2, .int r_1), (0, .int a0), (1, .int a1)]) hx hb dX6_lowestDenominator_5 rfl hl (by decide) rfl (fun ls hl => ?_)
  refine lv_iload_n hx hb dX6_lowestDenominator_6 rfl (lv_at hl 2 rfl) ?_
  refine lv_if_eq (tgt := 14) hx hb dX6_lowestDenominator_7 (by decide) (fun c_2 => ?_) (fun c_2 => ?_)
  · have hw := hw.1 c_2
    refine lv_iconst (v := (1 : Int32)) hx hb dX6_lowestDenominator_14 (by decide) ?_
    refine lv_goto (tgt := 21) hx hb dX6_lowestDenominator_15 (by decide) ?_
    exact hret 21 (1 : Int32) () _ _ _ (fun h => absurd h (by decide)) hw hP hD hS dX6_lowestDenominator_21
  · have hw := hw.2 c_2
    refine lv_iload_n hx hb dX6_lowestDenominator_10 rfl (lv_at hl 0 rfl) ?_
    refine lv_if_ne (tgt := 18) hx hb dX6_lowestDenominator_11 (by decide) (fun c_3 => ?_) (fun c_3 => ?_)
    · have hw := hw.1 c_3
      refine lv_iload_n hx hb dX6_lowestDenominator_18 rfl (lv_at hl 2 rfl) ?_
      refine lv_iload_n hx hb dX6_lowestDenominator_19 rfl (lv_at hl 0 rfl) ?_
      refine lv_idiv hx hb dX6_lowestDenominator_20 c_3 ?_
      exact hret 21 (a1 / r_1) () _ _ _ (fun h => absurd h (by decide)) hw hP hD hS dX6_lowestDenominator_21
    · have hw := hw.2 c_3
      refine lv_iconst (v := (1 : Int32)) hx hb dX6_lowestDenominator_14 (by decide) ?_
      refine lv_goto (tgt := 21) hx hb dX6_lowestDenominator_15 (by decide) ?_
      exact hret 21 (1 : Int32) () _ _ _ (fun h => absurd h (by decide)) hw hP hD hS dX6_lowestDenominator_21
-- CakeMarks.guest(II)I
def Wp_X6_guest (cg : Int32) (cw : Nat → Int32) (cV : Nat → Nat → Int32) (a1 : Int32) (a2 : Int32) (Z : Int32 → Prop) : Prop := (Wp_X0_isGuest cg a1 (fun r_1 => ((¬ r_1 = (0 : Int32) → ((a2 = (0 : Int32) → (Wp_X0_total cV a1 (fun r_3 => (Z r_3)))) ∧ (a2 = (1 : Int32) → (Wp_X0_worth cw cV a1 a1 (fun r_4 => (Z r_4)))) ∧ (a2 = (2 : Int32) → (Wp_X0_crumbsOf cw a1 (fun r_5 => (Z r_5)))) ∧ (a2 = (3 : Int32) → (Wp_X0_worth cw cV a1 a1 (fun r_6 => (Wp_X0_total cV a1 (fun r_7 => (Wp_X6_lowestNumerator r_6 r_7 (fun r_8 => (Z r_8)))))))) ∧ (a2 = (4 : Int32) → (Wp_X0_worth cw cV a1 a1 (fun r_9 => (Wp_X0_total cV a1 (fun r_10 => (Wp_X6_lowestDenominator r_9 r_10 (fun r_11 => (Z r_11)))))))) ∧ (a2 = (5 : Int32) → (Wp_X0_spansOf cw a1 (fun r_12 => (Z r_12)))) ∧ (a2 = (6 : Int32) → (Wp_X0_worth cw cV a1 (-1 : Int32) (fun r_13 => (Z r_13)))) ∧ ((a2.toInt < 0 ∨ 6 < a2.toInt) → (Z (-1 : Int32))))) ∧ (r_1 = (0 : Int32) → (Z (-1 : Int32))))))
theorem in_X6_guest_X6 : ∀ w ∈ u_ws RX6 TX6 8, w ∈ wsX6_guest := fun w h => List.mem_cons_of_mem _ (List.mem_append_left _ (List.mem_append_right _ h))
set_option maxHeartbeats 20000000 in
set_option maxRecDepth 100000 in
theorem c_X6_guest (l : Launch) (dC : Nat → ClassId) (dI : Nat → Nat → Nat) (kI kA kC : ClassId) (so : Nat) (co : Nat) (sh : Nat) (xo : Nat) (mo : Nat) (no : Nat) (djo : Nat) (ca : Nat) (cv : Nat) (cr : Nat → Nat) (sz : Nat) (ss : Int32) (sq : Int32) (cg : Int32) (cw : Nat → Int32) (cV : Nat → Nat → Int32) (a1 : Int32) (a2 : Int32) (Z : Int32 → Prop) (hw : Wp_X6_guest cg cw cV a1 a2 Z) : zI l yX6_guest wsX6_guest ({ frames := 2, cells := 0, slots := 0, locals := 48 }) dC dI kI kA kC sz 0 0 [.ref so, .int a1, .int a2] ((kRoot so co sh xo mo no djo ss sq) ++ (kCake kI kA co ca cv cr cg cw cV)) (fun (r : Int32) (u : Unit) => Z r ) (fun (u : Unit) => ((kRoot so co sh xo mo no djo ss sq) ++ (kCake kI kA co ca cv cr cg cw cV))) := by
  refine zI.of (cc := cX6_guest) (maxL := 3) (ty := .int) (by decide) rfl (Nat.le_of_ble_eq_true rfl) (Or.inl rfl) ?_
  intro p e s m args below meth c A Q C0 hret ls hl
  obtain ⟨hx, hb, hr, hml, hts, hown, hin, hP, hK, hD, hA, hS⟩ := C0
  have hown : s.vm.findClass RX6 = some m.cls := hown
  have hl : lv_has ls 3 [(0, .ref so), (1, .int a1), (2, .int a2)] := hl
  unfold Wp_X6_guest at hw
  refine lv_aload_n hx hb dX6_guest_0 rfl (lv_at hl 0 rfl) ?_
  refine va_get (D := (dC, dI)) (ci := 6) (v := .ref co) (C := RX6) (T := TX6) (N := 8) hx hb hts in_X6_guest_X6 hown hK hP 0 rfl rfl 0 (by decide) (hts (.fieldLink RX6 10 "CakeMarks" "cake" "LCakeMarks$Cake;") (List.mem_of_getElem? (i := 1) rfl)) (fun _ h9 => h9) rfl dX6_guest_1 ?_
  refine lv_iload_n hx hb dX6_guest_4 rfl (lv_at hl 1 rfl) ?_
  refine zcallI (ci := 0) (q0 := 0) (As := [.int a1]) (rest := []) (wr := (kRoot so co sh xo mo no djo ss sq)) (Wn := fun u => ((kRoot so co sh xo mo no djo ss sq) ++ (kCake kI kA co ca cv cr cg cw cV))) ⟨hx, hb, hml, hown, hts⟩ (c_X0_isGuest l dC dI kI kA kC co ca cv cr _ cg cw cV a1 _ hw) (cwV 1 hts gX6_guest_X0_isGuest rfl rfl rfl (by decide +kernel) ⟨Nat.le_of_ble_eq_true rfl, Nat.le_of_ble_eq_true rfl⟩) hK hP hD hS hA [1, 2, 3, 4, 5, 6, 7] [0] [0, 1, 2, 3, 4, 5, 6, 7] rfl rfl (by decide) (by decide) (by decide) (fun u => rfl) (by decide) rfl rfl rfl rfl hl.1 rfl (Nat.le_of_ble_eq_true rfl) dX6_guest_5 ⟨Nat.zero_le _, Nat.zero_le _⟩ (fun r_1 u H locs hw hP hD hS => ?_)
  have hP : va_P (dC, dI) vwCl ((kRoot so co sh xo mo no djo ss sq) ++ (kCake kI kA co ca cv cr cg cw cV)) H := hP
  have hD : va_D A ((kRoot so co sh xo mo no djo ss sq) ++ (kCake kI kA co ca cv cr cg cw cV)) := hD
  refine lv_if_ne (tgt := 13) hx hb dX6_guest_8 (by decide) (fun c_2 => ?_) (fun c_2 => ?_)
  · have hw := hw.1 c_2
    refine lv_iload_n hx hb dX6_guest_13 rfl (lv_at hl 2 rfl) ?_
    rcases z_sw 6 a2 with c_14 | ⟨k, hk, c_14⟩
    · have hw := hw.2.2.2.2.2.2.2 c_14
      refine lv_tableOut (tgt := 145) hx hb dX6_guest_14 c_14 (by decide) ?_
      refine lv_iconst (v := (-1 : Int32)) hx hb dX6_guest_145 (by decide) ?_
      exact hret 146 (-1 : Int32) () _ _ _ (fun h => absurd h (by decide)) hw hP hD hS dX6_guest_146
    · rcases (show k = 0 ∨ k = 1 ∨ k = 2 ∨ k = 3 ∨ k = 4 ∨ k = 5 ∨ k = 6 by omega) with rfl | rfl | rfl | rfl | rfl | rfl | rfl
      · have c_14 : a2 = (0 : Int32) := c_14
        have hw := hw.1 c_14
        refine lv_tableIn (off := 42) (tgt := 56) hx hb dX6_guest_14 (by rw [c_14]; decide) (by rw [c_14]; decide) (by rw [c_14]; decide) (by decide) ?_
        refine lv_aload_n hx hb dX6_guest_56 rfl (lv_at hl 0 rfl) ?_
        refine va_get (D := (dC, dI)) (ci := 6) (v := .ref co) (C := RX6) (T := TX6) (N := 8) hx hb hts in_X6_guest_X6 hown hK hP 0 rfl rfl 0 (by decide) (hts (.fieldLink RX6 10 "CakeMarks" "cake" "LCakeMarks$Cake;") (List.mem_of_getElem? (i := 1) rfl)) (fun _ h9 => h9) rfl dX6_guest_57 ?_
        refine lv_iload_n hx hb dX6_guest_60 rfl (lv_at hl 1 rfl) ?_
        refine zcallI (ci := 0) (q0 := 0) (As := [.int a1]) (rest := []) (wr := (kRoot so co sh xo mo no djo ss sq)) (Wn := fun u => ((kRoot so co sh xo mo no djo ss sq) ++ (kCake kI kA co ca cv cr cg cw cV))) ⟨hx, hb, hml, hown, hts⟩ (c_X0_total l dC dI kI kA kC co ca cv cr _ cg cw cV a1 _ hw) (cwV 1 hts gX6_guest_X0_total rfl rfl rfl (by decide +kernel) ⟨Nat.le_of_ble_eq_true rfl, Nat.le_of_ble_eq_true rfl⟩) hK hP hD hS hA [1, 2, 3, 4, 5, 6, 7] [0] [0, 1, 2, 3, 4, 5, 6, 7] rfl rfl (by decide) (by decide) (by decide) (fun u => rfl) (by decide) rfl rfl rfl rfl hl.1 rfl (Nat.le_of_ble_eq_true rfl) dX6_guest_61 ⟨Nat.zero_le _, Nat.zero_le _⟩ (fun r_3 u H locs hw hP hD hS => ?_)
        have hP : va_P (dC, dI) vwCl ((kRoot so co sh xo mo no djo ss sq) ++ (kCake kI kA co ca cv cr cg cw cV)) H := hP
        have hD : va_D A ((kRoot so co sh xo mo no djo ss sq) ++ (kCake kI kA co ca cv cr cg cw cV)) := hD
        exact hret 64 r_3 () _ _ _ (fun h => absurd h (by decide)) hw hP hD hS dX6_guest_64
      · have c_14 : a2 = (1 : Int32) := c_14
        have hw := hw.2.1 c_14
        refine lv_tableIn (off := 51) (tgt := 65) hx hb dX6_guest_14 (by rw [c_14]; decide) (by rw [c_14]; decide) (by rw [c_14]; decide) (by decide) ?_
        refine lv_aload_n hx hb dX6_guest_65 rfl (lv_at hl 0 rfl) ?_
        refine va_get (D := (dC, dI)) (ci := 6) (v := .ref co) (C := RX6) (T := TX6) (N := 8) hx hb hts in_X6_guest_X6 hown hK hP 0 rfl rfl 0 (by decide) (hts (.fieldLink RX6 10 "CakeMarks" "cake" "LCakeMarks$Cake;") (List.mem_of_getElem? (i := 1) rfl)) (fun _ h9 => h9) rfl dX6_guest_66 ?_
        refine lv_iload_n hx hb dX6_guest_69 rfl (lv_at hl 1 rfl) ?_
        refine lv_iload_n hx hb dX6_guest_70 rfl (lv_at hl 1 rfl) ?_
        refine zcallI (ci := 0) (q0 := 0) (As := [.int a1, .int a1]) (rest := []) (wr := (kRoot so co sh xo mo no djo ss sq)) (Wn := fun u => ((kRoot so co sh xo mo no djo ss sq) ++ (kCake kI kA co ca cv cr cg cw cV))) ⟨hx, hb, hml, hown, hts⟩ (c_X0_worth l dC dI kI kA kC co ca cv cr _ cg cw cV a1 a1 _ hw) (cwV 2 hts gX6_guest_X0_worth rfl rfl rfl (by decide +kernel) ⟨Nat.le_of_ble_eq_true rfl, Nat.le_of_ble_eq_true rfl⟩) hK hP hD hS hA [1, 2, 3, 4, 5, 6, 7] [0] [0, 1, 2, 3, 4, 5, 6, 7] rfl rfl (by decide) (by decide) (by decide) (fun u => rfl) (by decide) rfl rfl rfl rfl hl.1 rfl (Nat.le_of_ble_eq_true rfl) dX6_guest_71 ⟨Nat.zero_le _, Nat.zero_le _⟩ (fun r_4 u H locs hw hP hD hS => ?_)
        have hP : va_P (dC, dI) vwCl ((kRoot so co sh xo mo no djo ss sq) ++ (kCake kI kA co ca cv cr cg cw cV)) H := hP
        have hD : va_D A ((kRoot so co sh xo mo no djo ss sq) ++ (kCake kI kA co ca cv cr cg cw cV)) := hD
        exact hret 74 r_4 () _ _ _ (fun h => absurd h (by decide)) hw hP hD hS dX6_guest_74
      · have c_14 : a2 = (2 : Int32) := c_14
        have hw := hw.2.2.1 c_14
        refine lv_tableIn (off := 61) (tgt := 75) hx hb dX6_guest_14 (by rw [c_14]; decide) (by rw [c_14]; decide) (by rw [c_14]; decide) (by decide) ?_
        refine lv_aload_n hx hb dX6_guest_75 rfl (lv_at hl 0 rfl) ?_
        refine va_get (D := (dC, dI)) (ci := 6) (v := .ref co) (C := RX6) (T := TX6) (N := 8) hx hb hts in_X6_guest_X6 hown hK hP 0 rfl rfl 0 (by decide) (hts (.fieldLink RX6 10 "CakeMarks" "cake" "LCakeMarks$Cake;") (List.mem_of_getElem? (i := 1) rfl)) (fun _ h9 => h9) rfl dX6_guest_76 ?_
        refine lv_iload_n hx hb dX6_guest_79 rfl (lv_at hl 1 rfl) ?_
        refine zcallI (ci := 0) (q0 := 0) (As := [.int a1]) (rest := []) (wr := (kRoot so co sh xo mo no djo ss sq)) (Wn := fun u => ((kRoot so co sh xo mo no djo ss sq) ++ (kCake kI kA co ca cv cr cg cw cV))) ⟨hx, hb, hml, hown, hts⟩ (c_X0_crumbsOf l dC dI kI kA kC co ca cv cr _ cg cw cV a1 _ hw) (cwV 1 hts gX6_guest_X0_crumbsOf rfl rfl rfl (by decide +kernel) ⟨Nat.le_of_ble_eq_true rfl, Nat.le_of_ble_eq_true rfl⟩) hK hP hD hS hA [1, 2, 3, 4, 5, 6, 7] [0] [0, 1, 2, 3, 4, 5, 6, 7] rfl rfl (by decide) (by decide) (by decide) (fun u => rfl) (by decide) rfl rfl rfl rfl hl.1 rfl (Nat.le_of_ble_eq_true rfl) dX6_guest_80 ⟨Nat.zero_le _, Nat.zero_le _⟩ (fun r_5 u H locs hw hP hD hS => ?_)
        have hP : va_P (dC, dI) vwCl ((kRoot so co sh xo mo no djo ss sq) ++ (kCake kI kA co ca cv cr cg cw cV)) H := hP
        have hD : va_D A ((kRoot so co sh xo mo no djo ss sq) ++ (kCake kI kA co ca cv cr cg cw cV)) := hD
        exact hret 83 r_5 () _ _ _ (fun h => absurd h (by decide)) hw hP hD hS dX6_guest_83
      · have c_14 : a2 = (3 : Int32) := c_14
        have hw := hw.2.2.2.1 c_14
        refine lv_tableIn (off := 70) (tgt := 84) hx hb dX6_guest_14 (by rw [c_14]; decide) (by rw [c_14]; decide) (by rw [c_14]; decide) (by decide) ?_
        refine lv_aload_n hx hb dX6_guest_84 rfl (lv_at hl 0 rfl) ?_
        refine va_get (D := (dC, dI)) (ci := 6) (v := .ref co) (C := RX6) (T := TX6) (N := 8) hx hb hts in_X6_guest_X6 hown hK hP 0 rfl rfl 0 (by decide) (hts (.fieldLink RX6 10 "CakeMarks" "cake" "LCakeMarks$Cake;") (List.mem_of_getElem? (i := 1) rfl)) (fun _ h9 => h9) rfl dX6_guest_85 ?_
        refine lv_iload_n hx hb dX6_guest_88 rfl (lv_at hl 1 rfl) ?_
        refine lv_iload_n hx hb dX6_guest_89 rfl (lv_at hl 1 rfl) ?_
        refine zcallI (ci := 0) (q0 := 0) (As := [.int a1, .int a1]) (rest := []) (wr := (kRoot so co sh xo mo no djo ss sq)) (Wn := fun u => ((kRoot so co sh xo mo no djo ss sq) ++ (kCake kI kA co ca cv cr cg cw cV))) ⟨hx, hb, hml, hown, hts⟩ (c_X0_worth l dC dI kI kA kC co ca cv cr _ cg cw cV a1 a1 _ hw) (cwV 2 hts gX6_guest_X0_worth rfl rfl rfl (by decide +kernel) ⟨Nat.le_of_ble_eq_true rfl, Nat.le_of_ble_eq_true rfl⟩) hK hP hD hS hA [1, 2, 3, 4, 5, 6, 7] [0] [0, 1, 2, 3, 4, 5, 6, 7] rfl rfl (by decide) (by decide) (by decide) (fun u => rfl) (by decide) rfl rfl rfl rfl hl.1 rfl (Nat.le_of_ble_eq_true rfl) dX6_guest_90 ⟨Nat.zero_le _, Nat.zero_le _⟩ (fun r_6 u H locs hw hP hD hS => ?_)
        have hP : va_P (dC, dI) vwCl ((kRoot so co sh xo mo no djo ss sq) ++ (kCake kI kA co ca cv cr cg cw cV)) H := hP
        have hD : va_D A ((kRoot so co sh xo mo no djo ss sq) ++ (kCake kI kA co ca cv cr cg cw cV)) := hD
        refine lv_aload_n hx hb dX6_guest_93 rfl (lv_at hl 0 rfl) ?_
        refine va_get (D := (dC, dI)) (ci := 6) (v := .ref co) (C := RX6) (T := TX6) (N := 8) hx hb hts in_X6_guest_X6 hown hK hP 0 rfl rfl 0 (by decide) (hts (.fieldLink RX6 10 "CakeMarks" "cake" "LCakeMarks$Cake;") (List.mem_of_getElem? (i := 1) rfl)) (fun _ h9 => h9) rfl dX6_guest_94 ?_
        refine lv_iload_n hx hb dX6_guest_97 rfl (lv_at hl 1 rfl) ?_
        refine zcallI (ci := 0) (q0 := 0) (As := [.int a1]) (rest := [.int r_6]) (wr := (kRoot so co sh xo mo no djo ss sq)) (Wn := fun u => ((kRoot so co sh xo mo no djo ss sq) ++ (kCake kI kA co ca cv cr cg cw cV))) ⟨hx, hb, hml, hown, hts⟩ (c_X0_total l dC dI kI kA kC co ca cv cr _ cg cw cV a1 _ hw) (cwV 1 hts gX6_guest_X0_total rfl rfl rfl (by decide +kernel) ⟨Nat.le_of_ble_eq_true rfl, Nat.le_of_ble_eq_true rfl⟩) hK hP hD hS hA [1, 2, 3, 4, 5, 6, 7] [0] [0, 1, 2, 3, 4, 5, 6, 7] rfl rfl (by decide) (by decide) (by decide) (fun u => rfl) (by decide) rfl rfl rfl rfl hl.1 rfl (Nat.le_of_ble_eq_true rfl) dX6_guest_98 ⟨Nat.zero_le _, Nat.zero_le _⟩ (fun r_7 u H locs hw hP hD hS => ?_)
        have hP : va_P (dC, dI) vwCl ((kRoot so co sh xo mo no djo ss sq) ++ (kCake kI kA co ca cv cr cg cw cV)) H := hP
        have hD : va_D A ((kRoot so co sh xo mo no djo ss sq) ++ (kCake kI kA co ca cv cr cg cw cV)) := hD
        refine zcallS (As := [.int r_6, .int r_7]) (rest := []) (wr := ((kRoot so co sh xo mo no djo ss sq) ++ (kCake kI kA co ca cv cr cg cw cV))) (Wn := fun u => ((kRoot so co sh xo mo no djo ss sq) ++ (kCake kI kA co ca cv cr cg cw cV))) ⟨hx, hb, hml, hown, hts⟩ (c_X6_lowestNumerator l dC dI kI kA kC _ r_6 r_7 _ hw) (va_cwS 2 hts gX6_guest_X6_lowestNumerator rfl rfl rfl (by decide +kernel) ⟨Nat.le_of_ble_eq_true rfl, Nat.le_of_ble_eq_true rfl⟩) hK hP hD hS hA [] [0, 1, 2, 3, 4, 5, 6, 7] [0, 1, 2, 3, 4, 5, 6, 7] rfl rfl (by decide) (by decide) (by decide) (fun u => rfl) (by decide) rfl hl.1 rfl (Nat.le_of_ble_eq_true rfl) dX6_guest_101 ⟨Nat.zero_le _, Nat.zero_le _⟩ (fun r_8 u H locs hw hP hD hS => ?_)
        have hP : va_P (dC, dI) vwCl ((kRoot so co sh xo mo no djo ss sq) ++ (kCake kI kA co ca cv cr cg cw cV)) H := hP
        have hD : va_D A ((kRoot so co sh xo mo no djo ss sq) ++ (kCake kI kA co ca cv cr cg cw cV)) := hD
        exact hret 104 r_8 () _ _ _ (fun h => absurd h (by decide)) hw hP hD hS dX6_guest_104
      · have c_14 : a2 = (4 : Int32) := c_14
        have hw := hw.2.2.2.2.1 c_14
        refine lv_tableIn (off := 91) (tgt := 105) hx hb dX6_guest_14 (by rw [c_14]; decide) (by rw [c_14]; decide) (by rw [c_14]; decide) (by decide) ?_
        refine lv_aload_n hx hb dX6_guest_105 rfl (lv_at hl 0 rfl) ?_
        refine va_get (D := (dC, dI)) (ci := 6) (v := .ref co) (C := RX6) (T := TX6) (N := 8) hx hb hts in_X6_guest_X6 hown hK hP 0 rfl rfl 0 (by decide) (hts (.fieldLink RX6 10 "CakeMarks" "cake" "LCakeMarks$Cake;") (List.mem_of_getElem? (i := 1) rfl)) (fun _ h9 => h9) rfl dX6_guest_106 ?_
        refine lv_iload_n hx hb dX6_guest_109 rfl (lv_at hl 1 rfl) ?_
        refine lv_iload_n hx hb dX6_guest_110 rfl (lv_at hl 1 rfl) ?_
        refine zcallI (ci := 0) (q0 := 0) (As := [.int a1, .int a1]) (rest := []) (wr := (kRoot so co sh xo mo no djo ss sq)) (Wn := fun u => ((kRoot so co sh xo mo no djo ss sq) ++ (kCake kI kA co ca cv cr cg cw cV))) ⟨hx, hb, hml, hown, hts⟩ (c_X0_worth l dC dI kI kA kC co ca cv cr _ cg cw cV a1 a1 _ hw) (cwV 2 hts gX6_guest_X0_worth rfl rfl rfl (by decide +kernel) ⟨Nat.le_of_ble_eq_true rfl, Nat.le_of_ble_eq_true rfl⟩) hK hP hD hS hA [1, 2, 3, 4, 5, 6, 7] [0] [0, 1, 2, 3, 4, 5, 6, 7] rfl rfl (by decide) (by decide) (by decide) (fun u => rfl) (by decide) rfl rfl rfl rfl hl.1 rfl (Nat.le_of_ble_eq_true rfl) dX6_guest_111 ⟨Nat.zero_le _, Nat.zero_le _⟩ (fun r_9 u H locs hw hP hD hS => ?_)
        have hP : va_P (dC, dI) vwCl ((kRoot so co sh xo mo no djo ss sq) ++ (kCake kI kA co ca cv cr cg cw cV)) H := hP
        have hD : va_D A ((kRoot so co sh xo mo no djo ss sq) ++ (kCake kI kA co ca cv cr cg cw cV)) := hD
        refine lv_aload_n hx hb dX6_guest_114 rfl (lv_at hl 0 rfl) ?_
        refine va_get (D := (dC, dI)) (ci := 6) (v := .ref co) (C := RX6) (T := TX6) (N := 8) hx hb hts in_X6_guest_X6 hown hK hP 0 rfl rfl 0 (by decide) (hts (.fieldLink RX6 10 "CakeMarks" "cake" "LCakeMarks$Cake;") (List.mem_of_getElem? (i := 1) rfl)) (fun _ h9 => h9) rfl dX6_guest_115 ?_
        refine lv_iload_n hx hb dX6_guest_118 rfl (lv_at hl 1 rfl) ?_
        refine zcallI (ci := 0) (q0 := 0) (As := [.int a1]) (rest := [.int r_9]) (wr := (kRoot so co sh xo mo no djo ss sq)) (Wn := fun u => ((kRoot so co sh xo mo no djo ss sq) ++ (kCake kI kA co ca cv cr cg cw cV))) ⟨hx, hb, hml, hown, hts⟩ (c_X0_total l dC dI kI kA kC co ca cv cr _ cg cw cV a1 _ hw) (cwV 1 hts gX6_guest_X0_total rfl rfl rfl (by decide +kernel) ⟨Nat.le_of_ble_eq_true rfl, Nat.le_of_ble_eq_true rfl⟩) hK hP hD hS hA [1, 2, 3, 4, 5, 6, 7] [0] [0, 1, 2, 3, 4, 5, 6, 7] rfl rfl (by decide) (by decide) (by decide) (fun u => rfl) (by decide) rfl rfl rfl rfl hl.1 rfl (Nat.le_of_ble_eq_true rfl) dX6_guest_119 ⟨Nat.zero_le _, Nat.zero_le _⟩ (fun r_10 u H locs hw hP hD hS => ?_)
        have hP : va_P (dC, dI) vwCl ((kRoot so co sh xo mo no djo ss sq) ++ (kCake kI kA co ca cv cr cg cw cV)) H := hP
        have hD : va_D A ((kRoot so co sh xo mo no djo ss sq) ++ (kCake kI kA co ca cv cr cg cw cV)) := hD
        refine zcallS (As := [.int r_9, .int r_10]) (rest := []) (wr := ((kRoot so co sh xo mo no djo ss sq) ++ (kCake kI kA co ca cv cr cg cw cV))) (Wn := fun u => ((kRoot so co sh xo mo no djo ss sq) ++ (kCake kI kA co ca cv cr cg cw cV))) ⟨hx, hb, hml, hown, hts⟩ (c_X6_lowestDenominator l dC dI kI kA kC _ r_9 r_10 _ hw) (va_cwS 2 hts gX6_guest_X6_lowestDenominator rfl rfl rfl (by decide +kernel) ⟨Nat.le_of_ble_eq_true rfl, Nat.le_of_ble_eq_true rfl⟩) hK hP hD hS hA [] [0, 1, 2, 3, 4, 5, 6, 7] [0, 1, 2, 3, 4, 5, 6, 7] rfl rfl (by decide) (by decide) (by decide) (fun u => rfl) (by decide) rfl hl.1 rfl (Nat.le_of_ble_eq_true rfl) dX6_guest_122 ⟨Nat.zero_le _, Nat.zero_le _⟩ (fun r_11 u H locs hw hP hD hS => ?_)
        have hP : va_P (dC, dI) vwCl ((kRoot so co sh xo mo no djo ss sq) ++ (kCake kI kA co ca cv cr cg cw cV)) H := hP
        have hD : va_D A ((kRoot so co sh xo mo no djo ss sq) ++ (kCake kI kA co ca cv cr cg cw cV)) := hD
        exact hret 125 r_11 () _ _ _ (fun h => absurd h (by decide)) hw hP hD hS dX6_guest_125
      · have c_14 : a2 = (5 : Int32) := c_14
        have hw := hw.2.2.2.2.2.1 c_14
        refine lv_tableIn (off := 112) (tgt := 126) hx hb dX6_guest_14 (by rw [c_14]; decide) (by rw [c_14]; decide) (by rw [c_14]; decide) (by decide) ?_
        refine lv_aload_n hx hb dX6_guest_126 rfl (lv_at hl 0 rfl) ?_
        refine va_get (D := (dC, dI)) (ci := 6) (v := .ref co) (C := RX6) (T := TX6) (N := 8) hx hb hts in_X6_guest_X6 hown hK hP 0 rfl rfl 0 (by decide) (hts (.fieldLink RX6 10 "CakeMarks" "cake" "LCakeMarks$Cake;") (List.mem_of_getElem? (i := 1) rfl)) (fun _ h9 => h9) rfl dX6_guest_127 ?_
        refine lv_iload_n hx hb dX6_guest_130 rfl (lv_at hl 1 rfl) ?_
        refine zcallI (ci := 0) (q0 := 0) (As := [.int a1]) (rest := []) (wr := (kRoot so co sh xo mo no djo ss sq)) (Wn := fun u => ((kRoot so co sh xo mo no djo ss sq) ++ (kCake kI kA co ca cv cr cg cw cV))) ⟨hx, hb, hml, hown, hts⟩ (c_X0_spansOf l dC dI kI kA kC co ca cv cr _ cg cw cV a1 _ hw) (cwV 1 hts gX6_guest_X0_spansOf rfl rfl rfl (by decide +kernel) ⟨Nat.le_of_ble_eq_true rfl, Nat.le_of_ble_eq_true rfl⟩) hK hP hD hS hA [1, 2, 3, 4, 5, 6, 7] [0] [0, 1, 2, 3, 4, 5, 6, 7] rfl rfl (by decide) (by decide) (by decide) (fun u => rfl) (by decide) rfl rfl rfl rfl hl.1 rfl (Nat.le_of_ble_eq_true rfl) dX6_guest_131 ⟨Nat.zero_le _, Nat.zero_le _⟩ (fun r_12 u H locs hw hP hD hS => ?_)
        have hP : va_P (dC, dI) vwCl ((kRoot so co sh xo mo no djo ss sq) ++ (kCake kI kA co ca cv cr cg cw cV)) H := hP
        have hD : va_D A ((kRoot so co sh xo mo no djo ss sq) ++ (kCake kI kA co ca cv cr cg cw cV)) := hD
        exact hret 134 r_12 () _ _ _ (fun h => absurd h (by decide)) hw hP hD hS dX6_guest_134
      · have c_14 : a2 = (6 : Int32) := c_14
        have hw := hw.2.2.2.2.2.2.1 c_14
        refine lv_tableIn (off := 121) (tgt := 135) hx hb dX6_guest_14 (by rw [c_14]; decide) (by rw [c_14]; decide) (by rw [c_14]; decide) (by decide) ?_
        refine lv_aload_n hx hb dX6_guest_135 rfl (lv_at hl 0 rfl) ?_
        refine va_get (D := (dC, dI)) (ci := 6) (v := .ref co) (C := RX6) (T := TX6) (N := 8) hx hb hts in_X6_guest_X6 hown hK hP 0 rfl rfl 0 (by decide) (hts (.fieldLink RX6 10 "CakeMarks" "cake" "LCakeMarks$Cake;") (List.mem_of_getElem? (i := 1) rfl)) (fun _ h9 => h9) rfl dX6_guest_136 ?_
        refine lv_iload_n hx hb dX6_guest_139 rfl (lv_at hl 1 rfl) ?_
        refine lv_iconst (v := (-1 : Int32)) hx hb dX6_guest_140 (by decide) ?_
        refine zcallI (ci := 0) (q0 := 0) (As := [.int a1, .int (-1 : Int32)]) (rest := []) (wr := (kRoot so co sh xo mo no djo ss sq)) (Wn := fun u => ((kRoot so co sh xo mo no djo ss sq) ++ (kCake kI kA co ca cv cr cg cw cV))) ⟨hx, hb, hml, hown, hts⟩ (c_X0_worth l dC dI kI kA kC co ca cv cr _ cg cw cV a1 (-1 : Int32) _ hw) (cwV 2 hts gX6_guest_X0_worth rfl rfl rfl (by decide +kernel) ⟨Nat.le_of_ble_eq_true rfl, Nat.le_of_ble_eq_true rfl⟩) hK hP hD hS hA [1, 2, 3, 4, 5, 6, 7] [0] [0, 1, 2, 3, 4, 5, 6, 7] rfl rfl (by decide) (by decide) (by decide) (fun u => rfl) (by decide) rfl rfl rfl rfl hl.1 rfl (Nat.le_of_ble_eq_true rfl) dX6_guest_141 ⟨Nat.zero_le _, Nat.zero_le _⟩ (fun r_13 u H locs hw hP hD hS => ?_)
        have hP : va_P (dC, dI) vwCl ((kRoot so co sh xo mo no djo ss sq) ++ (kCake kI kA co ca cv cr cg cw cV)) H := hP
        have hD : va_D A ((kRoot so co sh xo mo no djo ss sq) ++ (kCake kI kA co ca cv cr cg cw cV)) := hD
        exact hret 144 r_13 () _ _ _ (fun h => absurd h (by decide)) hw hP hD hS dX6_guest_144
  · have hw := hw.2 c_2
    refine lv_iconst (v := (-1 : Int32)) hx hb dX6_guest_11 (by decide) ?_
    exact hret 12 (-1 : Int32) () _ _ _ (fun h => absurd h (by decide)) hw hP hD hS dX6_guest_12
-- CakeMarks.crumb(I)I
def Wp_X6_crumb (cw : Nat → Int32) (a1 : Int32) (Z : Int32 → Prop) : Prop := ((a1 < (0 : Int32) → (Z (-1 : Int32))) ∧ (¬ a1 < (0 : Int32) → ((a1 < (24 : Int32) → (vp_in a1 24 ∧ ((¬ (cw a1.toNatClampNeg) = (-1 : Int32) → (Z (cw a1.toNatClampNeg))) ∧ ((cw a1.toNatClampNeg) = (-1 : Int32) → (Z (-9 : Int32)))))) ∧ (¬ a1 < (24 : Int32) → (Z (-1 : Int32))))))
theorem in_X6_crumb_X0 : ∀ w ∈ u_ws RX0 TX0 3, w ∈ wsX6_crumb := fun w h => List.mem_cons_of_mem _ (List.mem_append_right _ h)
theorem in_X6_crumb_X6 : ∀ w ∈ u_ws RX6 TX6 8, w ∈ wsX6_crumb := fun w h => List.mem_cons_of_mem _ (List.mem_append_left _ (List.mem_append_right _ h))
set_option maxHeartbeats 20000000 in
set_option maxRecDepth 100000 in
theorem c_X6_crumb (l : Launch) (dC : Nat → ClassId) (dI : Nat → Nat → Nat) (kI kA kC : ClassId) (so : Nat) (co : Nat) (sh : Nat) (xo : Nat) (mo : Nat) (no : Nat) (djo : Nat) (ca : Nat) (cv : Nat) (cr : Nat → Nat) (sz : Nat) (ss : Int32) (sq : Int32) (cg : Int32) (cw : Nat → Int32) (cV : Nat → Nat → Int32) (a1 : Int32) (Z : Int32 → Prop) (hw : Wp_X6_crumb cw a1 Z) : zI l yX6_crumb wsX6_crumb ({ frames := 0, cells := 0, slots := 0, locals := 0 }) dC dI kI kA kC sz 0 0 [.ref so, .int a1] ((kRoot so co sh xo mo no djo ss sq) ++ (kCake kI kA co ca cv cr cg cw cV)) (fun (r : Int32) (u : Unit) => Z r ) (fun (u : Unit) => ((kRoot so co sh xo mo no djo ss sq) ++ (kCake kI kA co ca cv cr cg cw cV))) := by
  refine zI.of (cc := cX6_crumb) (maxL := 3) (ty := .int) (by decide) rfl (Nat.le_of_ble_eq_true rfl) (Or.inl rfl) ?_
  intro p e s m args below meth c A Q C0 hret ls hl
  obtain ⟨hx, hb, hr, hml, hts, hown, hin, hP, hK, hD, hA, hS⟩ := C0
  have hown : s.vm.findClass RX6 = some m.cls := hown
  have hl : lv_has ls 3 [(0, .ref so), (1, .int a1)] := hl
  unfold Wp_X6_crumb at hw
  refine lv_iload_n hx hb dX6_crumb_0 rfl (lv_at hl 1 rfl) ?_
  refine lv_if_lt (tgt := 10) hx hb dX6_crumb_1 (by decide) (fun c_1 => ?_) (fun c_1 => ?_)
  · have hw := hw.1 c_1
    refine lv_iconst (v := (-1 : Int32)) hx hb dX6_crumb_10 (by decide) ?_
    exact hret 11 (-1 : Int32) () _ _ _ (fun h => absurd h (by decide)) hw hP hD hS dX6_crumb_11
  · have hw := hw.2 c_1
    refine lv_iload_n hx hb dX6_crumb_4 rfl (lv_at hl 1 rfl) ?_
    refine lv_bipush (v := (24 : Int32)) hx hb dX6_crumb_5 (by decide) ?_
    refine lv_icmp_lt (tgt := 12) hx hb dX6_crumb_7 (by decide) (fun c_2 => ?_) (fun c_2 => ?_)
    · have hw := hw.1 c_2
      refine lv_aload_n hx hb dX6_crumb_12 rfl (lv_at hl 0 rfl) ?_
      refine va_get (D := (dC, dI)) (ci := 6) (v := .ref co) (C := RX6) (T := TX6) (N := 8) hx hb hts in_X6_crumb_X6 hown hK hP 0 rfl rfl 0 (by decide) (hts (.fieldLink RX6 10 "CakeMarks" "cake" "LCakeMarks$Cake;") (List.mem_of_getElem? (i := 1) rfl)) (fun _ h9 => h9) rfl dX6_crumb_13 ?_
      refine va_get (D := (dC, dI)) (ci := 0) (v := .ref ca) (C := RX0) (T := TX0) (N := 3) hx hb hts in_X6_crumb_X0 hown hK hP 1 rfl rfl 1 (by decide) (hts (.fieldLink RX6 176 "CakeMarks$Cake" "owner" "[I") (List.mem_of_getElem? (i := 2) rfl)) (fun _ h9 => h9) rfl dX6_crumb_16 ?_
      refine lv_iload_n hx hb dX6_crumb_19 rfl (lv_at hl 1 rfl) ?_
      obtain ⟨h_3, hw⟩ := hw
      refine va_iald hx hb hK hP 2 0 rfl rfl h_3 dX6_crumb_20 ?_
      refine lv_istore_n (lv' := [(2, .int (cw a1.toNatClampNeg)), (0, .ref so), (1, .int a1)]) hx hb dX6_crumb_21 rfl hl (by decide) rfl (fun ls hl => ?_)
      refine lv_iload_n hx hb dX6_crumb_22 rfl (lv_at hl 0 rfl) ?_
      refine lv_iconst (v := (-1 : Int32)) hx hb dX6_crumb_23 (by decide) ?_
      refine lv_icmp_ne (tgt := 32) hx hb dX6_crumb_24 (by decide) (fun c_4 => ?_) (fun c_4 => ?_)
      · have hw := hw.1 c_4
        refine lv_iload_n hx hb dX6_crumb_32 rfl (lv_at hl 0 rfl) ?_
        exact hret 33 (cw a1.toNatClampNeg) () _ _ _ (fun h => absurd h (by decide)) hw hP hD hS dX6_crumb_33
      · have hw := hw.2 c_4
        refine lv_bipush (v := (-9 : Int32)) hx hb dX6_crumb_27 (by decide) ?_
        refine lv_goto (tgt := 33) hx hb dX6_crumb_29 (by decide) ?_
        exact hret 33 (-9 : Int32) () _ _ _ (fun h => absurd h (by decide)) hw hP hD hS dX6_crumb_33
    · have hw := hw.2 c_2
      refine lv_iconst (v := (-1 : Int32)) hx hb dX6_crumb_10 (by decide) ?_
      exact hret 11 (-1 : Int32) () _ _ _ (fun h => absurd h (by decide)) hw hP hD hS dX6_crumb_11
-- CakeMarks.value(II)I
def Wp_X6_value (cg : Int32) (cV : Nat → Nat → Int32) (a1 : Int32) (a2 : Int32) (Z : Int32 → Prop) : Prop := (Wp_X0_isGuest cg a1 (fun r_1 => ((r_1 = (0 : Int32) → (Z (-1 : Int32))) ∧ (¬ r_1 = (0 : Int32) → ((a2 < (0 : Int32) → (Z (-1 : Int32))) ∧ (¬ a2 < (0 : Int32) → ((a2 < (24 : Int32) → (vp_in a1 4 ∧ (vp_in a2 24 ∧ (Z (cV a1.toNatClampNeg a2.toNatClampNeg))))) ∧ (¬ a2 < (24 : Int32) → (Z (-1 : Int32))))))))))
theorem in_X6_value_X0 : ∀ w ∈ u_ws RX0 TX0 3, w ∈ wsX6_value := fun w h => List.mem_cons_of_mem _ (List.mem_append_right _ h)
theorem in_X6_value_X6 : ∀ w ∈ u_ws RX6 TX6 8, w ∈ wsX6_value := fun w h => List.mem_cons_of_mem _ (List.mem_append_left _ (List.mem_append_right _ h))
set_option maxHeartbeats 20000000 in
set_option maxRecDepth 100000 in
theorem c_X6_value (l : Launch) (dC : Nat → ClassId) (dI : Nat → Nat → Nat) (kI kA kC : ClassId) (so : Nat) (co : Nat) (sh : Nat) (xo : Nat) (mo : Nat) (no : Nat) (djo : Nat) (ca : Nat) (cv : Nat) (cr : Nat → Nat) (sz : Nat) (ss : Int32) (sq : Int32) (cg : Int32) (cw : Nat → Int32) (cV : Nat → Nat → Int32) (a1 : Int32) (a2 : Int32) (Z : Int32 → Prop) (hw : Wp_X6_value cg cV a1 a2 Z) : zI l yX6_value wsX6_value ({ frames := 1, cells := 0, slots := 0, locals := 21 }) dC dI kI kA kC sz 0 0 [.ref so, .int a1, .int a2] ((kRoot so co sh xo mo no djo ss sq) ++ (kCake kI kA co ca cv cr cg cw cV)) (fun (r : Int32) (u : Unit) => Z r ) (fun (u : Unit) => ((kRoot so co sh xo mo no djo ss sq) ++ (kCake kI kA co ca cv cr cg cw cV))) := by
  refine zI.of (cc := cX6_value) (maxL := 3) (ty := .int) (by decide) rfl (Nat.le_of_ble_eq_true rfl) (Or.inl rfl) ?_
  intro p e s m args below meth c A Q C0 hret ls hl
  obtain ⟨hx, hb, hr, hml, hts, hown, hin, hP, hK, hD, hA, hS⟩ := C0
  have hown : s.vm.findClass RX6 = some m.cls := hown
  have hl : lv_has ls 3 [(0, .ref so), (1, .int a1), (2, .int a2)] := hl
  unfold Wp_X6_value at hw
  refine lv_aload_n hx hb dX6_value_0 rfl (lv_at hl 0 rfl) ?_
  refine va_get (D := (dC, dI)) (ci := 6) (v := .ref co) (C := RX6) (T := TX6) (N := 8) hx hb hts in_X6_value_X6 hown hK hP 0 rfl rfl 0 (by decide) (hts (.fieldLink RX6 10 "CakeMarks" "cake" "LCakeMarks$Cake;") (List.mem_of_getElem? (i := 1) rfl)) (fun _ h9 => h9) rfl dX6_value_1 ?_
  refine lv_iload_n hx hb dX6_value_4 rfl (lv_at hl 1 rfl) ?_
  refine zcallI (ci := 0) (q0 := 0) (As := [.int a1]) (rest := []) (wr := (kRoot so co sh xo mo no djo ss sq)) (Wn := fun u => ((kRoot so co sh xo mo no djo ss sq) ++ (kCake kI kA co ca cv cr cg cw cV))) ⟨hx, hb, hml, hown, hts⟩ (c_X0_isGuest l dC dI kI kA kC co ca cv cr _ cg cw cV a1 _ hw) (cwV 1 hts gX6_value_X0_isGuest rfl rfl rfl (by decide +kernel) ⟨Nat.le_of_ble_eq_true rfl, Nat.le_of_ble_eq_true rfl⟩) hK hP hD hS hA [1, 2, 3, 4, 5, 6, 7] [0] [0, 1, 2, 3, 4, 5, 6, 7] rfl rfl (by decide) (by decide) (by decide) (fun u => rfl) (by decide) rfl rfl rfl rfl hl.1 rfl (Nat.le_of_ble_eq_true rfl) dX6_value_5 ⟨Nat.zero_le _, Nat.zero_le _⟩ (fun r_1 u H locs hw hP hD hS => ?_)
  have hP : va_P (dC, dI) vwCl ((kRoot so co sh xo mo no djo ss sq) ++ (kCake kI kA co ca cv cr cg cw cV)) H := hP
  have hD : va_D A ((kRoot so co sh xo mo no djo ss sq) ++ (kCake kI kA co ca cv cr cg cw cV)) := hD
  refine lv_if_eq (tgt := 21) hx hb dX6_value_8 (by decide) (fun c_2 => ?_) (fun c_2 => ?_)
  · have hw := hw.1 c_2
    refine lv_iconst (v := (-1 : Int32)) hx hb dX6_value_21 (by decide) ?_
    exact hret 22 (-1 : Int32) () _ _ _ (fun h => absurd h (by decide)) hw hP hD hS dX6_value_22
  · have hw := hw.2 c_2
    refine lv_iload_n hx hb dX6_value_11 rfl (lv_at hl 2 rfl) ?_
    refine lv_if_lt (tgt := 21) hx hb dX6_value_12 (by decide) (fun c_3 => ?_) (fun c_3 => ?_)
    · have hw := hw.1 c_3
      refine lv_iconst (v := (-1 : Int32)) hx hb dX6_value_21 (by decide) ?_
      exact hret 22 (-1 : Int32) () _ _ _ (fun h => absurd h (by decide)) hw hP hD hS dX6_value_22
    · have hw := hw.2 c_3
      refine lv_iload_n hx hb dX6_value_15 rfl (lv_at hl 2 rfl) ?_
      refine lv_bipush (v := (24 : Int32)) hx hb dX6_value_16 (by decide) ?_
      refine lv_icmp_lt (tgt := 23) hx hb dX6_value_18 (by decide) (fun c_4 => ?_) (fun c_4 => ?_)
      · have hw := hw.1 c_4
        refine lv_aload_n hx hb dX6_value_23 rfl (lv_at hl 0 rfl) ?_
        refine va_get (D := (dC, dI)) (ci := 6) (v := .ref co) (C := RX6) (T := TX6) (N := 8) hx hb hts in_X6_value_X6 hown hK hP 0 rfl rfl 0 (by decide) (hts (.fieldLink RX6 10 "CakeMarks" "cake" "LCakeMarks$Cake;") (List.mem_of_getElem? (i := 1) rfl)) (fun _ h9 => h9) rfl dX6_value_24 ?_
        refine va_get (D := (dC, dI)) (ci := 0) (v := .ref cv) (C := RX0) (T := TX0) (N := 3) hx hb hts in_X6_value_X0 hown hK hP 1 rfl rfl 2 (by decide) (hts (.fieldLink RX6 177 "CakeMarks$Cake" "values" "[[I") (List.mem_of_getElem? (i := 2) rfl)) (fun _ h9 => h9) rfl dX6_value_27 ?_
        refine lv_iload_n hx hb dX6_value_30 rfl (lv_at hl 1 rfl) ?_
        obtain ⟨h_5, hw⟩ := hw
        refine zald hx hb hK hP 3 1 rfl rfl rfl h_5 rfl dX6_value_31 ?_
        refine lv_iload_n hx hb dX6_value_32 rfl (lv_at hl 2 rfl) ?_
        obtain ⟨h_6, hw⟩ := hw
        refine va_iald hx hb hK hP (4 + a1.toNatClampNeg) 0 (co_4 (P := fun g => ((kRoot so co sh xo mo no djo ss sq) ++ (kCake kI kA co ca cv cr cg cw cV))[4 + g]? = some (cr g, zi kI 24 (cV g))) rfl rfl rfl rfl (z_lt h_5)) rfl h_6 dX6_value_33 ?_
        exact hret 34 (cV a1.toNatClampNeg a2.toNatClampNeg) () _ _ _ (fun h => absurd h (by decide)) hw hP hD hS dX6_value_34
      · have hw := hw.2 c_4
        refine lv_iconst (v := (-1 : Int32)) hx hb dX6_value_21 (by decide) ?_
        exact hret 22 (-1 : Int32) () _ _ _ (fun h => absurd h (by decide)) hw hP hD hS dX6_value_22
-- CakeMarks.envy(II)I
def Wp_X6_envy (cg : Int32) (cw : Nat → Int32) (cV : Nat → Nat → Int32) (a1 : Int32) (a2 : Int32) (Z : Int32 → Prop) : Prop := (Wp_X6_isPair cg a1 a2 (fun r_1 => ((r_1 = (0 : Int32) → (Z (-1 : Int32))) ∧ (¬ r_1 = (0 : Int32) → (Wp_X0_envyOf cw cV a1 a2 (fun r_3 => (Z r_3)))))))
theorem in_X6_envy_X6 : ∀ w ∈ u_ws RX6 TX6 8, w ∈ wsX6_envy := fun w h => List.mem_cons_of_mem _ (List.mem_append_left _ (List.mem_append_right _ h))
set_option maxHeartbeats 20000000 in
set_option maxRecDepth 100000 in
theorem c_X6_envy (l : Launch) (dC : Nat → ClassId) (dI : Nat → Nat → Nat) (kI kA kC : ClassId) (so : Nat) (co : Nat) (sh : Nat) (xo : Nat) (mo : Nat) (no : Nat) (djo : Nat) (ca : Nat) (cv : Nat) (cr : Nat → Nat) (sz : Nat) (ss : Int32) (sq : Int32) (cg : Int32) (cw : Nat → Int32) (cV : Nat → Nat → Int32) (a1 : Int32) (a2 : Int32) (Z : Int32 → Prop) (hw : Wp_X6_envy cg cw cV a1 a2 Z) : zI l yX6_envy wsX6_envy ({ frames := 3, cells := 0, slots := 0, locals := 70 }) dC dI kI kA kC sz 0 0 [.ref so, .int a1, .int a2] ((kRoot so co sh xo mo no djo ss sq) ++ (kCake kI kA co ca cv cr cg cw cV)) (fun (r : Int32) (u : Unit) => Z r ) (fun (u : Unit) => ((kRoot so co sh xo mo no djo ss sq) ++ (kCake kI kA co ca cv cr cg cw cV))) := by
  refine zI.of (cc := cX6_envy) (maxL := 3) (ty := .int) (by decide) rfl (Nat.le_of_ble_eq_true rfl) (Or.inl rfl) ?_
  intro p e s m args below meth c A Q C0 hret ls hl
  obtain ⟨hx, hb, hr, hml, hts, hown, hin, hP, hK, hD, hA, hS⟩ := C0
  have hown : s.vm.findClass RX6 = some m.cls := hown
  have hl : lv_has ls 3 [(0, .ref so), (1, .int a1), (2, .int a2)] := hl
  unfold Wp_X6_envy at hw
  refine lv_aload_n hx hb dX6_envy_0 rfl (lv_at hl 0 rfl) ?_
  refine lv_iload_n hx hb dX6_envy_1 rfl (lv_at hl 1 rfl) ?_
  refine lv_iload_n hx hb dX6_envy_2 rfl (lv_at hl 2 rfl) ?_
  refine zcallI (ci := 6) (q0 := 0) (As := [.int a1, .int a2]) (rest := []) (wr := ([] : va_W)) (Wn := fun u => ((kRoot so co sh xo mo no djo ss sq) ++ (kCake kI kA co ca cv cr cg cw cV))) ⟨hx, hb, hml, hown, hts⟩ (c_X6_isPair l dC dI kI kA kC so co sh xo mo no djo ca cv cr _ ss sq cg cw cV a1 a2 _ hw) (cwV 2 hts gX6_envy_X6_isPair rfl rfl rfl (by decide +kernel) ⟨Nat.le_of_ble_eq_true rfl, Nat.le_of_ble_eq_true rfl⟩) hK hP hD hS hA [0, 1, 2, 3, 4, 5, 6, 7] [] [0, 1, 2, 3, 4, 5, 6, 7] rfl rfl (by decide) (by decide) (by decide) (fun u => rfl) (by decide) rfl rfl rfl rfl hl.1 rfl (Nat.le_of_ble_eq_true rfl) dX6_envy_3 ⟨Nat.zero_le _, Nat.zero_le _⟩ (fun r_1 u H locs hw hP hD hS => ?_)
  have hP : va_P (dC, dI) vwCl ((kRoot so co sh xo mo no djo ss sq) ++ (kCake kI kA co ca cv cr cg cw cV)) H := hP
  have hD : va_D A ((kRoot so co sh xo mo no djo ss sq) ++ (kCake kI kA co ca cv cr cg cw cV)) := hD
  refine lv_if_eq (tgt := 21) hx hb dX6_envy_6 (by decide) (fun c_2 => ?_) (fun c_2 => ?_)
  · have hw := hw.1 c_2
    refine lv_iconst (v := (-1 : Int32)) hx hb dX6_envy_21 (by decide) ?_
    exact hret 22 (-1 : Int32) () _ _ _ (fun h => absurd h (by decide)) hw hP hD hS dX6_envy_22
  · have hw := hw.2 c_2
    refine lv_aload_n hx hb dX6_envy_9 rfl (lv_at hl 0 rfl) ?_
    refine va_get (D := (dC, dI)) (ci := 6) (v := .ref co) (C := RX6) (T := TX6) (N := 8) hx hb hts in_X6_envy_X6 hown hK hP 0 rfl rfl 0 (by decide) (hts (.fieldLink RX6 10 "CakeMarks" "cake" "LCakeMarks$Cake;") (List.mem_of_getElem? (i := 1) rfl)) (fun _ h9 => h9) rfl dX6_envy_10 ?_
    refine lv_iload_n hx hb dX6_envy_13 rfl (lv_at hl 1 rfl) ?_
    refine lv_iload_n hx hb dX6_envy_14 rfl (lv_at hl 2 rfl) ?_
    refine zcallI (ci := 0) (q0 := 0) (As := [.int a1, .int a2]) (rest := []) (wr := (kRoot so co sh xo mo no djo ss sq)) (Wn := fun u => ((kRoot so co sh xo mo no djo ss sq) ++ (kCake kI kA co ca cv cr cg cw cV))) ⟨hx, hb, hml, hown, hts⟩ (c_X0_envyOf l dC dI kI kA kC co ca cv cr _ cg cw cV a1 a2 _ hw) (cwV 2 hts gX6_envy_X0_envyOf rfl rfl rfl (by decide +kernel) ⟨Nat.le_of_ble_eq_true rfl, Nat.le_of_ble_eq_true rfl⟩) hK hP hD hS hA [1, 2, 3, 4, 5, 6, 7] [0] [0, 1, 2, 3, 4, 5, 6, 7] rfl rfl (by decide) (by decide) (by decide) (fun u => rfl) (by decide) rfl rfl rfl rfl hl.1 rfl (Nat.le_of_ble_eq_true rfl) dX6_envy_15 ⟨Nat.zero_le _, Nat.zero_le _⟩ (fun r_3 u H locs hw hP hD hS => ?_)
    have hP : va_P (dC, dI) vwCl ((kRoot so co sh xo mo no djo ss sq) ++ (kCake kI kA co ca cv cr cg cw cV)) H := hP
    have hD : va_D A ((kRoot so co sh xo mo no djo ss sq) ++ (kCake kI kA co ca cv cr cg cw cV)) := hD
    refine lv_goto (tgt := 22) hx hb dX6_envy_18 (by decide) ?_
    exact hret 22 r_3 () _ _ _ (fun h => absurd h (by decide)) hw hP hD hS dX6_envy_22
-- CakeMarks.ring(I)I
def Wp_X6_ring (cg : Int32) (cw : Nat → Int32) (cV : Nat → Nat → Int32) (nE : Nat → Int32) (nrT : Nat → Int32) (nrs : Int32) (nrg : Int32) (a1 : Int32) (Z : Int32 → (Nat → Int32) → (Nat → Int32) → Int32 → Int32 → Prop) : Prop := (((0 : Int32) ≤ a1 → (Wp_X3_find nE nrT nrs nrg cg cw cV (fun r_6 nE_2 nrT_3 nrs_4 nrg_5 => ((r_6 ≤ a1 → (Z (-9 : Int32) nE_2 nrT_3 nrs_4 nrg_5)) ∧ (¬ r_6 ≤ a1 → (vp_in a1 4 ∧ (Z (nrT_3 a1.toNatClampNeg) nE_2 nrT_3 nrs_4 nrg_5))))))) ∧ (¬ (0 : Int32) ≤ a1 → (Z (-1 : Int32) nE nrT nrs nrg)))
theorem in_X6_ring_X3 : ∀ w ∈ u_ws RX3 TX3 2, w ∈ wsX6_ring := fun w h => List.mem_cons_of_mem _ (List.mem_append_left _ (List.mem_append_left _ (List.mem_append_right _ h)))
theorem in_X6_ring_X4 : ∀ w ∈ u_ws RX4 TX4 3, w ∈ wsX6_ring := fun w h => List.mem_cons_of_mem _ (List.mem_append_left _ (List.mem_append_right _ h))
theorem in_X6_ring_X6 : ∀ w ∈ u_ws RX6 TX6 8, w ∈ wsX6_ring := fun w h => List.mem_cons_of_mem _ (List.mem_append_left _ (List.mem_append_left _ (List.mem_append_left _ (List.mem_append_right _ h))))
set_option maxHeartbeats 20000000 in
set_option maxRecDepth 100000 in
theorem c_X6_ring (l : Launch) (dC : Nat → ClassId) (dI : Nat → Nat → Nat) (kI kA kC : ClassId) (so : Nat) (co : Nat) (sh : Nat) (xo : Nat) (mo : Nat) (no : Nat) (djo : Nat) (ca : Nat) (cv : Nat) (cr : Nat → Nat) (nro : Nat) (ne : Nat) (nra : Nat) (sz : Nat) (ss : Int32) (sq : Int32) (cg : Int32) (cw : Nat → Int32) (cV : Nat → Nat → Int32) (nE : Nat → Int32) (nrT : Nat → Int32) (nrs : Int32) (nrg : Int32) (a1 : Int32) (Z : Int32 → (Nat → Int32) → (Nat → Int32) → Int32 → Int32 → Prop) (hw : Wp_X6_ring cg cw cV nE nrT nrs nrg a1 Z) : zI l yX6_ring wsX6_ring ({ frames := 5, cells := 0, slots := 0, locals := 117 }) dC dI kI kA kC sz 0 0 [.ref so, .int a1] ((kRoot so co sh xo mo no djo ss sq) ++ ((kCake kI kA co ca cv cr cg cw cV) ++ ((kRings kI no nro ne nE) ++ (kRow kI nro nra nrT nrs nrg)))) (fun (r : Int32) (u : (Nat → Int32) × (Nat → Int32) × Int32 × Int32) => Z r u.1 u.2.1 u.2.2.1 u.2.2.2) (fun (u : (Nat → Int32) × (Nat → Int32) × Int32 × Int32) => ((kRoot so co sh xo mo no djo ss sq) ++ ((kCake kI kA co ca cv cr cg cw cV) ++ ((kRings kI no nro ne u.1) ++ (kRow kI nro nra u.2.1 u.2.2.1 u.2.2.2))))) := by
  refine zI.of (cc := cX6_ring) (maxL := 2) (ty := .int) (by decide) rfl (Nat.le_of_ble_eq_true rfl) (Or.inl rfl) ?_
  intro p e s m args below meth c A Q C0 hret ls hl
  obtain ⟨hx, hb, hr, hml, hts, hown, hin, hP, hK, hD, hA, hS⟩ := C0
  have hown : s.vm.findClass RX6 = some m.cls := hown
  have hl : lv_has ls 2 [(0, .ref so), (1, .int a1)] := hl
  unfold Wp_X6_ring at hw
  refine lv_iload_n hx hb dX6_ring_0 rfl (lv_at hl 1 rfl) ?_
  refine lv_if_ge (tgt := 6) hx hb dX6_ring_1 (by decide) (fun c_1 => ?_) (fun c_1 => ?_)
  · have hw := hw.1 c_1
    refine lv_iload_n hx hb dX6_ring_6 rfl (lv_at hl 1 rfl) ?_
    refine lv_aload_n hx hb dX6_ring_7 rfl (lv_at hl 0 rfl) ?_
    refine va_get (D := (dC, dI)) (ci := 6) (v := .ref no) (C := RX6) (T := TX6) (N := 8) hx hb hts in_X6_ring_X6 hown hK hP 0 rfl rfl 5 (by decide) (hts (.fieldLink RX6 41 "CakeMarks" "rings" "LCakeMarks$Rings;") (List.mem_of_getElem? (i := 1) rfl)) (fun _ h9 => h9) rfl dX6_ring_8 ?_
    refine lv_aload_n hx hb dX6_ring_11 rfl (lv_at hl 0 rfl) ?_
    refine va_get (D := (dC, dI)) (ci := 6) (v := .ref co) (C := RX6) (T := TX6) (N := 8) hx hb hts in_X6_ring_X6 hown hK hP 0 rfl rfl 0 (by decide) (hts (.fieldLink RX6 10 "CakeMarks" "cake" "LCakeMarks$Cake;") (List.mem_of_getElem? (i := 2) rfl)) (fun _ h9 => h9) rfl dX6_ring_12 ?_
    refine zcallI (ci := 3) (q0 := 0) (As := [.ref co]) (rest := [.int a1]) (wr := (kRoot so co sh xo mo no djo ss sq)) (Wn := fun u => ((kRoot so co sh xo mo no djo ss sq) ++ ((kCake kI kA co ca cv cr cg cw cV) ++ ((kRings kI no nro ne u.1) ++ (kRow kI nro nra u.2.1 u.2.2.1 u.2.2.2))))) ⟨hx, hb, hml, hown, hts⟩ (c_X3_find l dC dI kI kA kC no nro ne nra co ca cv cr _ nE nrT nrs nrg cg cw cV _ hw) (cwV 1 hts gX6_ring_X3_find rfl rfl rfl (by decide +kernel) ⟨Nat.le_of_ble_eq_true rfl, Nat.le_of_ble_eq_true rfl⟩) hK hP hD hS hA [8, 9, 10, 11, 1, 2, 3, 4, 5, 6, 7] [0] [0, 5, 6, 7, 8, 9, 10, 11, 1, 2, 3, 4] rfl rfl (by decide) (by decide) (by decide) (fun u => rfl) (by decide) rfl rfl rfl rfl hl.1 rfl (Nat.le_of_ble_eq_true rfl) dX6_ring_15 ⟨Nat.zero_le _, Nat.zero_le _⟩ (fun r_6 u H locs hw hP hD hS => ?_)
    obtain ⟨nE_2, nrT_3, nrs_4, nrg_5⟩ := u
    have hP : va_P (dC, dI) vwCl ((kRoot so co sh xo mo no djo ss sq) ++ ((kCake kI kA co ca cv cr cg cw cV) ++ ((kRings kI no nro ne nE_2) ++ (kRow kI nro nra nrT_3 nrs_4 nrg_5)))) H := hP
    have hD : va_D A ((kRoot so co sh xo mo no djo ss sq) ++ ((kCake kI kA co ca cv cr cg cw cV) ++ ((kRings kI no nro ne nE_2) ++ (kRow kI nro nra nrT_3 nrs_4 nrg_5)))) := hD
    refine lv_icmp_ge (tgt := 36) hx hb dX6_ring_18 (by decide) (fun c_7 => ?_) (fun c_7 => ?_)
    · have hw := hw.1 c_7
      refine lv_bipush (v := (-9 : Int32)) hx hb dX6_ring_36 (by decide) ?_
      exact hret 38 (-9 : Int32) (nE_2, nrT_3, nrs_4, nrg_5) _ _ _ (fun h => absurd h (by decide)) hw hP hD hS dX6_ring_38
    · have hw := hw.2 c_7
      refine lv_aload_n hx hb dX6_ring_21 rfl (lv_at hl 0 rfl) ?_
      refine va_get (D := (dC, dI)) (ci := 6) (v := .ref no) (C := RX6) (T := TX6) (N := 8) hx hb hts in_X6_ring_X6 hown hK hP 0 rfl rfl 5 (by decide) (hts (.fieldLink RX6 41 "CakeMarks" "rings" "LCakeMarks$Rings;") (List.mem_of_getElem? (i := 1) rfl)) (fun _ h9 => h9) rfl dX6_ring_22 ?_
      refine va_get (D := (dC, dI)) (ci := 3) (v := .ref nro) (C := RX3) (T := TX3) (N := 2) hx hb hts in_X6_ring_X3 hown hK hP 8 rfl rfl 0 (by decide) (hts (.fieldLink RX6 140 "CakeMarks$Rings" "row" "LCakeMarks$Row;") (List.mem_of_getElem? (i := 3) rfl)) (fun _ h9 => h9) rfl dX6_ring_25 ?_
      refine va_get (D := (dC, dI)) (ci := 4) (v := .ref nra) (C := RX4) (T := TX4) (N := 3) hx hb hts in_X6_ring_X4 hown hK hP 10 rfl rfl 0 (by decide) (hts (.fieldLink RX6 183 "CakeMarks$Row" "at" "[I") (List.mem_of_getElem? (i := 4) rfl)) (fun _ h9 => h9) rfl dX6_ring_28 ?_
      refine lv_iload_n hx hb dX6_ring_31 rfl (lv_at hl 1 rfl) ?_
      obtain ⟨h_8, hw⟩ := hw
      refine va_iald hx hb hK hP 11 0 rfl rfl h_8 dX6_ring_32 ?_
      refine lv_goto (tgt := 38) hx hb dX6_ring_33 (by decide) ?_
      exact hret 38 (nrT_3 a1.toNatClampNeg) (nE_2, nrT_3, nrs_4, nrg_5) _ _ _ (fun h => absurd h (by decide)) hw hP hD hS dX6_ring_38
  · have hw := hw.2 c_1
    refine lv_iconst (v := (-1 : Int32)) hx hb dX6_ring_4 (by decide) ?_
    exact hret 5 (-1 : Int32) (nE, nrT, nrs, nrg) _ _ _ (fun h => absurd h (by decide)) hw hP hD hS dX6_ring_5
-- CakeMarks.middle(I)I
def Wp_X6_middle (cg : Int32) (cV : Nat → Nat → Int32) (a1 : Int32) (Z : Int32 → Prop) : Prop := (Wp_X0_isGuest cg a1 (fun r_1 => ((r_1 = (0 : Int32) → (Z (-1 : Int32))) ∧ (¬ r_1 = (0 : Int32) → (Wp_X0_findCut cV a1 (0 : Int32) (23 : Int32) (fun r_3 => (Z r_3)))))))
theorem in_X6_middle_X6 : ∀ w ∈ u_ws RX6 TX6 8, w ∈ wsX6_middle := fun w h => List.mem_cons_of_mem _ (List.mem_append_left _ (List.mem_append_right _ h))
set_option maxHeartbeats 20000000 in
set_option maxRecDepth 100000 in
theorem c_X6_middle (l : Launch) (dC : Nat → ClassId) (dI : Nat → Nat → Nat) (kI kA kC : ClassId) (so : Nat) (co : Nat) (sh : Nat) (xo : Nat) (mo : Nat) (no : Nat) (djo : Nat) (ca : Nat) (cv : Nat) (cr : Nat → Nat) (sz : Nat) (ss : Int32) (sq : Int32) (cg : Int32) (cw : Nat → Int32) (cV : Nat → Nat → Int32) (a1 : Int32) (Z : Int32 → Prop) (hw : Wp_X6_middle cg cV a1 Z) : zI l yX6_middle wsX6_middle ({ frames := 2, cells := 0, slots := 0, locals := 54 }) dC dI kI kA kC sz 0 0 [.ref so, .int a1] ((kRoot so co sh xo mo no djo ss sq) ++ (kCake kI kA co ca cv cr cg cw cV)) (fun (r : Int32) (u : Unit) => Z r ) (fun (u : Unit) => ((kRoot so co sh xo mo no djo ss sq) ++ (kCake kI kA co ca cv cr cg cw cV))) := by
  refine zI.of (cc := cX6_middle) (maxL := 2) (ty := .int) (by decide) rfl (Nat.le_of_ble_eq_true rfl) (Or.inl rfl) ?_
  intro p e s m args below meth c A Q C0 hret ls hl
  obtain ⟨hx, hb, hr, hml, hts, hown, hin, hP, hK, hD, hA, hS⟩ := C0
  have hown : s.vm.findClass RX6 = some m.cls := hown
  have hl : lv_has ls 2 [(0, .ref so), (1, .int a1)] := hl
  unfold Wp_X6_middle at hw
  refine lv_aload_n hx hb dX6_middle_0 rfl (lv_at hl 0 rfl) ?_
  refine va_get (D := (dC, dI)) (ci := 6) (v := .ref co) (C := RX6) (T := TX6) (N := 8) hx hb hts in_X6_middle_X6 hown hK hP 0 rfl rfl 0 (by decide) (hts (.fieldLink RX6 10 "CakeMarks" "cake" "LCakeMarks$Cake;") (List.mem_of_getElem? (i := 1) rfl)) (fun _ h9 => h9) rfl dX6_middle_1 ?_
  refine lv_iload_n hx hb dX6_middle_4 rfl (lv_at hl 1 rfl) ?_
  refine zcallI (ci := 0) (q0 := 0) (As := [.int a1]) (rest := []) (wr := (kRoot so co sh xo mo no djo ss sq)) (Wn := fun u => ((kRoot so co sh xo mo no djo ss sq) ++ (kCake kI kA co ca cv cr cg cw cV))) ⟨hx, hb, hml, hown, hts⟩ (c_X0_isGuest l dC dI kI kA kC co ca cv cr _ cg cw cV a1 _ hw) (cwV 1 hts gX6_middle_X0_isGuest rfl rfl rfl (by decide +kernel) ⟨Nat.le_of_ble_eq_true rfl, Nat.le_of_ble_eq_true rfl⟩) hK hP hD hS hA [1, 2, 3, 4, 5, 6, 7] [0] [0, 1, 2, 3, 4, 5, 6, 7] rfl rfl (by decide) (by decide) (by decide) (fun u => rfl) (by decide) rfl rfl rfl rfl hl.1 rfl (Nat.le_of_ble_eq_true rfl) dX6_middle_5 ⟨Nat.zero_le _, Nat.zero_le _⟩ (fun r_1 u H locs hw hP hD hS => ?_)
  have hP : va_P (dC, dI) vwCl ((kRoot so co sh xo mo no djo ss sq) ++ (kCake kI kA co ca cv cr cg cw cV)) H := hP
  have hD : va_D A ((kRoot so co sh xo mo no djo ss sq) ++ (kCake kI kA co ca cv cr cg cw cV)) := hD
  refine lv_if_eq (tgt := 25) hx hb dX6_middle_8 (by decide) (fun c_2 => ?_) (fun c_2 => ?_)
  · have hw := hw.1 c_2
    refine lv_iconst (v := (-1 : Int32)) hx hb dX6_middle_25 (by decide) ?_
    exact hret 26 (-1 : Int32) () _ _ _ (fun h => absurd h (by decide)) hw hP hD hS dX6_middle_26
  · have hw := hw.2 c_2
    refine lv_aload_n hx hb dX6_middle_11 rfl (lv_at hl 0 rfl) ?_
    refine va_get (D := (dC, dI)) (ci := 6) (v := .ref co) (C := RX6) (T := TX6) (N := 8) hx hb hts in_X6_middle_X6 hown hK hP 0 rfl rfl 0 (by decide) (hts (.fieldLink RX6 10 "CakeMarks" "cake" "LCakeMarks$Cake;") (List.mem_of_getElem? (i := 1) rfl)) (fun _ h9 => h9) rfl dX6_middle_12 ?_
    refine lv_iload_n hx hb dX6_middle_15 rfl (lv_at hl 1 rfl) ?_
    refine lv_iconst (v := (0 : Int32)) hx hb dX6_middle_16 (by decide) ?_
    refine lv_bipush (v := (23 : Int32)) hx hb dX6_middle_17 (by decide) ?_
    refine zcallI (ci := 0) (q0 := 0) (As := [.int a1, .int (0 : Int32), .int (23 : Int32)]) (rest := []) (wr := (kRoot so co sh xo mo no djo ss sq)) (Wn := fun u => ((kRoot so co sh xo mo no djo ss sq) ++ (kCake kI kA co ca cv cr cg cw cV))) ⟨hx, hb, hml, hown, hts⟩ (c_X0_findCut l dC dI kI kA kC co ca cv cr _ cg cw cV a1 (0 : Int32) (23 : Int32) _ hw) (cwV 3 hts gX6_middle_X0_findCut rfl rfl rfl (by decide +kernel) ⟨Nat.le_of_ble_eq_true rfl, Nat.le_of_ble_eq_true rfl⟩) hK hP hD hS hA [1, 2, 3, 4, 5, 6, 7] [0] [0, 1, 2, 3, 4, 5, 6, 7] rfl rfl (by decide) (by decide) (by decide) (fun u => rfl) (by decide) rfl rfl rfl rfl hl.1 rfl (Nat.le_of_ble_eq_true rfl) dX6_middle_19 ⟨Nat.zero_le _, Nat.zero_le _⟩ (fun r_3 u H locs hw hP hD hS => ?_)
    have hP : va_P (dC, dI) vwCl ((kRoot so co sh xo mo no djo ss sq) ++ (kCake kI kA co ca cv cr cg cw cV)) H := hP
    have hD : va_D A ((kRoot so co sh xo mo no djo ss sq) ++ (kCake kI kA co ca cv cr cg cw cV)) := hD
    refine lv_goto (tgt := 26) hx hb dX6_middle_22 (by decide) ?_
    exact hret 26 r_3 () _ _ _ (fun h => absurd h (by decide)) hw hP hD hS dX6_middle_26
-- CakeMarks.searchOnce()V
def Wp_X6_searchOnce (sq : Int32) (cg : Int32) (cV : Nat → Nat → Int32) (dFp : Int32) (dFt : Int32) (dFg : Int32) (dFS : Nat → Int32) (dQc : Int32) (dQg : Int32) (dQk : Int32) (dSp : Int32) (dST : Nat → Int32) (dTO : Nat → Int32) (dAH : Nat → Nat → Int32) (dPA : Nat → Nat → Int32) (dGR : Nat → Int32) (drT : Nat → Int32) (drs : Int32) (drg : Int32) (Z : Int32 → Int32 → Int32 → Int32 → (Nat → Int32) → Int32 → Int32 → Int32 → Int32 → (Nat → Int32) → (Nat → Int32) → (Nat → Nat → Int32) → (Nat → Nat → Int32) → (Nat → Int32) → (Nat → Int32) → Int32 → Int32 → Prop) : Prop := ((¬ sq = (0 : Int32) → (Z sq dFp dFt dFg dFS dQc dQg dQk dSp dST dTO dAH dPA dGR drT drs drg)) ∧ (sq = (0 : Int32) → (Wp_X1_search dFp dFt dFg dFS dQc dQg dQk dSp dST dTO dAH dPA dGR drT drs drg cg cV (fun dFp_2 dFt_3 dFg_4 dFS_5 dQc_6 dQg_7 dQk_8 dSp_9 dST_10 dTO_11 dAH_12 dPA_13 dGR_14 drT_15 drs_16 drg_17 => (Z (1 : Int32) dFp_2 dFt_3 dFg_4 dFS_5 dQc_6 dQg_7 dQk_8 dSp_9 dST_10 dTO_11 dAH_12 dPA_13 dGR_14 drT_15 drs_16 drg_17)))))
theorem in_X6_searchOnce_X6 : ∀ w ∈ u_ws RX6 TX6 8, w ∈ wsX6_searchOnce := fun w h => List.mem_cons_of_mem _ (List.mem_append_left _ (List.mem_append_left _ (List.mem_append_left _ (List.mem_append_right _ h))))
set_option maxHeartbeats 20000000 in
set_option maxRecDepth 100000 in
theorem c_X6_searchOnce (l : Launch) (dC : Nat → ClassId) (dI : Nat → Nat → Nat) (kI kA kC : ClassId) (so : Nat) (co : Nat) (sh : Nat) (xo : Nat) (mo : Nat) (no : Nat) (djo : Nat) (ca : Nat) (cv : Nat) (cr : Nat → Nat) (dfs : Nat) (dro : Nat) (dst : Nat) (dto : Nat) (dah : Nat) (dar : Nat → Nat) (dpa : Nat) (dpr : Nat → Nat) (dgr : Nat) (dra : Nat) (sz : Nat) (ss : Int32) (sq : Int32) (cg : Int32) (cw : Nat → Int32) (cV : Nat → Nat → Int32) (dFp : Int32) (dFt : Int32) (dFg : Int32) (dFS : Nat → Int32) (dQc : Int32) (dQg : Int32) (dQk : Int32) (dSp : Int32) (dST : Nat → Int32) (dTO : Nat → Int32) (dAH : Nat → Nat → Int32) (dPA : Nat → Nat → Int32) (dGR : Nat → Int32) (drT : Nat → Int32) (drs : Int32) (drg : Int32) (Z : Int32 → Int32 → Int32 → Int32 → (Nat → Int32) → Int32 → Int32 → Int32 → Int32 → (Nat → Int32) → (Nat → Int32) → (Nat → Nat → Int32) → (Nat → Nat → Int32) → (Nat → Int32) → (Nat → Int32) → Int32 → Int32 → Prop) (hw : Wp_X6_searchOnce sq cg cV dFp dFt dFg dFS dQc dQg dQk dSp dST dTO dAH dPA dGR drT drs drg Z) : zV l yX6_searchOnce wsX6_searchOnce ({ frames := 5, cells := 0, slots := 0, locals := 115 }) dC dI kI kA kC sz 0 0 [.ref so] ((kRoot so co sh xo mo no djo ss sq) ++ ((kCake kI kA co ca cv cr cg cw cV) ++ ((kDiv kI kA djo dfs dro dst dto dah dar dpa dpr dgr dFp dFt dFg dFS dQc dQg dQk dSp dST dTO dAH dPA dGR) ++ (kRow kI dro dra drT drs drg)))) (fun (u : Int32 × Int32 × Int32 × Int32 × (Nat → Int32) × Int32 × Int32 × Int32 × Int32 × (Nat → Int32) × (Nat → Int32) × (Nat → Nat → Int32) × (Nat → Nat → Int32) × (Nat → Int32) × (Nat → Int32) × Int32 × Int32) => Z u.1 u.2.1 u.2.2.1 u.2.2.2.1 u.2.2.2.2.1 u.2.2.2.2.2.1 u.2.2.2.2.2.2.1 u.2.2.2.2.2.2.2.1 u.2.2.2.2.2.2.2.2.1 u.2.2.2.2.2.2.2.2.2.1 u.2.2.2.2.2.2.2.2.2.2.1 u.2.2.2.2.2.2.2.2.2.2.2.1 u.2.2.2.2.2.2.2.2.2.2.2.2.1 u.2.2.2.2.2.2.2.2.2.2.2.2.2.1 u.2.2.2.2.2.2.2.2.2.2.2.2.2.2.1 u.2.2.2.2.2.2.2.2.2.2.2.2.2.2.2.1 u.2.2.2.2.2.2.2.2.2.2.2.2.2.2.2.2) (fun (u : Int32 × Int32 × Int32 × Int32 × (Nat → Int32) × Int32 × Int32 × Int32 × Int32 × (Nat → Int32) × (Nat → Int32) × (Nat → Nat → Int32) × (Nat → Nat → Int32) × (Nat → Int32) × (Nat → Int32) × Int32 × Int32) => ((kRoot so co sh xo mo no djo ss u.1) ++ ((kCake kI kA co ca cv cr cg cw cV) ++ ((kDiv kI kA djo dfs dro dst dto dah dar dpa dpr dgr u.2.1 u.2.2.1 u.2.2.2.1 u.2.2.2.2.1 u.2.2.2.2.2.1 u.2.2.2.2.2.2.1 u.2.2.2.2.2.2.2.1 u.2.2.2.2.2.2.2.2.1 u.2.2.2.2.2.2.2.2.2.1 u.2.2.2.2.2.2.2.2.2.2.1 u.2.2.2.2.2.2.2.2.2.2.2.1 u.2.2.2.2.2.2.2.2.2.2.2.2.1 u.2.2.2.2.2.2.2.2.2.2.2.2.2.1) ++ (kRow kI dro dra u.2.2.2.2.2.2.2.2.2.2.2.2.2.2.1 u.2.2.2.2.2.2.2.2.2.2.2.2.2.2.2.1 u.2.2.2.2.2.2.2.2.2.2.2.2.2.2.2.2))))) := by
  refine zV.of (cc := cX6_searchOnce) (maxL := 1) (by decide) rfl (Nat.le_of_ble_eq_true rfl) ?_
  intro p e s m args below meth c A Q C0 hret ls hl
  obtain ⟨hx, hb, hr, hml, hts, hown, hin, hP, hK, hD, hA, hS⟩ := C0
  have hown : s.vm.findClass RX6 = some m.cls := hown
  have hl : lv_has ls 1 [(0, .ref so)] := hl
  unfold Wp_X6_searchOnce at hw
  refine lv_aload_n hx hb dX6_searchOnce_0 rfl (lv_at hl 0 rfl) ?_
  refine va_get (D := (dC, dI)) (ci := 6) (v := .int sq) (C := RX6) (T := TX6) (N := 8) hx hb hts in_X6_searchOnce_X6 hown hK hP 0 rfl rfl 7 (by decide) (hts (.fieldLink RX6 52 "CakeMarks" "searched" "Z") (List.mem_of_getElem? (i := 1) rfl)) (fun _ h9 => h9) rfl dX6_searchOnce_1 ?_
  refine lv_if_ne (tgt := 23) hx hb dX6_searchOnce_4 (by decide) (fun c_1 => ?_) (fun c_1 => ?_)
  · have hw := hw.1 c_1
    exact hret 23 (sq, dFp, dFt, dFg, dFS, dQc, dQg, dQk, dSp, dST, dTO, dAH, dPA, dGR, drT, drs, drg) _ _ _ hw hP hD hS dX6_searchOnce_23
  · have hw := hw.2 c_1
    refine lv_aload_n hx hb dX6_searchOnce_7 rfl (lv_at hl 0 rfl) ?_
    refine va_get (D := (dC, dI)) (ci := 6) (v := .ref djo) (C := RX6) (T := TX6) (N := 8) hx hb hts in_X6_searchOnce_X6 hown hK hP 0 rfl rfl 6 (by decide) (hts (.fieldLink RX6 48 "CakeMarks" "divisions" "LCakeMarks$Divisions;") (List.mem_of_getElem? (i := 2) rfl)) (fun _ h9 => h9) rfl dX6_searchOnce_8 ?_
    refine lv_aload_n hx hb dX6_searchOnce_11 rfl (lv_at hl 0 rfl) ?_
    refine va_get (D := (dC, dI)) (ci := 6) (v := .ref co) (C := RX6) (T := TX6) (N := 8) hx hb hts in_X6_searchOnce_X6 hown hK hP 0 rfl rfl 0 (by decide) (hts (.fieldLink RX6 10 "CakeMarks" "cake" "LCakeMarks$Cake;") (List.mem_of_getElem? (i := 3) rfl)) (fun _ h9 => h9) rfl dX6_searchOnce_12 ?_
    refine zcallV (ci := 1) (q0 := 0) (As := [.ref co]) (rest := []) (wr := (kRoot so co sh xo mo no djo ss sq)) (Wn := fun u => ((kRoot so co sh xo mo no djo ss sq) ++ ((kCake kI kA co ca cv cr cg cw cV) ++ ((kDiv kI kA djo dfs dro dst dto dah dar dpa dpr dgr u.1 u.2.1 u.2.2.1 u.2.2.2.1 u.2.2.2.2.1 u.2.2.2.2.2.1 u.2.2.2.2.2.2.1 u.2.2.2.2.2.2.2.1 u.2.2.2.2.2.2.2.2.1 u.2.2.2.2.2.2.2.2.2.1 u.2.2.2.2.2.2.2.2.2.2.1 u.2.2.2.2.2.2.2.2.2.2.2.1 u.2.2.2.2.2.2.2.2.2.2.2.2.1) ++ (kRow kI dro dra u.2.2.2.2.2.2.2.2.2.2.2.2.2.1 u.2.2.2.2.2.2.2.2.2.2.2.2.2.2.1 u.2.2.2.2.2.2.2.2.2.2.2.2.2.2.2))))) ⟨hx, hb, hml, hown, hts⟩ (c_X1_search l dC dI kI kA kC djo dfs dro dst dto dah dar dpa dpr dgr dra co ca cv cr _ dFp dFt dFg dFS dQc dQg dQk dSp dST dTO dAH dPA dGR drT drs drg cg cw cV _ hw) (cwV 1 hts gX6_searchOnce_X1_search rfl rfl rfl (by decide +kernel) ⟨Nat.le_of_ble_eq_true rfl, Nat.le_of_ble_eq_true rfl⟩) hK hP hD hS hA [8, 9, 10, 11, 12, 13, 14, 15, 16, 17, 18, 19, 20, 21, 22, 23, 24, 1, 2, 3, 4, 5, 6, 7] [0] [0, 18, 19, 20, 21, 22, 23, 24, 1, 2, 3, 4, 5, 6, 7, 8, 9, 10, 11, 12, 13, 14, 15, 16, 17] rfl rfl (by decide) (by decide) (by decide) (fun u => rfl) (by decide) rfl rfl rfl rfl hl.1 rfl (Nat.le_of_ble_eq_true rfl) dX6_searchOnce_15 ⟨Nat.zero_le _, Nat.zero_le _⟩ (fun u H locs hw hP hD hS => ?_)
    obtain ⟨dFp_2, dFt_3, dFg_4, dFS_5, dQc_6, dQg_7, dQk_8, dSp_9, dST_10, dTO_11, dAH_12, dPA_13, dGR_14, drT_15, drs_16, drg_17⟩ := u
    have hP : va_P (dC, dI) vwCl ((kRoot so co sh xo mo no djo ss sq) ++ ((kCake kI kA co ca cv cr cg cw cV) ++ ((kDiv kI kA djo dfs dro dst dto dah dar dpa dpr dgr dFp_2 dFt_3 dFg_4 dFS_5 dQc_6 dQg_7 dQk_8 dSp_9 dST_10 dTO_11 dAH_12 dPA_13 dGR_14) ++ (kRow kI dro dra drT_15 drs_16 drg_17)))) H := hP
    have hD : va_D A ((kRoot so co sh xo mo no djo ss sq) ++ ((kCake kI kA co ca cv cr cg cw cV) ++ ((kDiv kI kA djo dfs dro dst dto dah dar dpa dpr dgr dFp_2 dFt_3 dFg_4 dFS_5 dQc_6 dQg_7 dQk_8 dSp_9 dST_10 dTO_11 dAH_12 dPA_13 dGR_14) ++ (kRow kI dro dra drT_15 drs_16 drg_17)))) := hD
    refine lv_aload_n hx hb dX6_searchOnce_18 rfl (lv_at hl 0 rfl) ?_
    refine lv_iconst (v := (1 : Int32)) hx hb dX6_searchOnce_19 (by decide) ?_
    refine va_put (D := (dC, dI)) (ci := 6) (v := .int (1 : Int32)) (ty := .boolean) (C := RX6) (T := TX6) (N := 8) hx hb hts in_X6_searchOnce_X6 tyX6 tyX6_ok nmX6 hown hK hP hD hS 0 rfl rfl 7 (by decide) (hts (.fieldLink RX6 52 "CakeMarks" "searched" "Z") (List.mem_of_getElem? (i := 1) rfl)) (fun _ h9 => h9) rfl (by decide +kernel) rfl rfl (Nat.le_of_ble_eq_true rfl) dX6_searchOnce_20 (fun H locs hP hD hS => ?_)
    have hP : va_P (dC, dI) vwCl ((kRoot so co sh xo mo no djo ss (1 : Int32)) ++ ((kCake kI kA co ca cv cr cg cw cV) ++ ((kDiv kI kA djo dfs dro dst dto dah dar dpa dpr dgr dFp_2 dFt_3 dFg_4 dFS_5 dQc_6 dQg_7 dQk_8 dSp_9 dST_10 dTO_11 dAH_12 dPA_13 dGR_14) ++ (kRow kI dro dra drT_15 drs_16 drg_17)))) H := hP
    have hD : va_D A ((kRoot so co sh xo mo no djo ss (1 : Int32)) ++ ((kCake kI kA co ca cv cr cg cw cV) ++ ((kDiv kI kA djo dfs dro dst dto dah dar dpa dpr dgr dFp_2 dFt_3 dFg_4 dFS_5 dQc_6 dQg_7 dQk_8 dSp_9 dST_10 dTO_11 dAH_12 dPA_13 dGR_14) ++ (kRow kI dro dra drT_15 drs_16 drg_17)))) := hD
    exact hret 23 ((1 : Int32), dFp_2, dFt_3, dFg_4, dFS_5, dQc_6, dQg_7, dQk_8, dSp_9, dST_10, dTO_11, dAH_12, dPA_13, dGR_14, drT_15, drs_16, drg_17) _ _ _ hw hP hD hS dX6_searchOnce_23
-- CakeMarks.best(I)I
def Wp_X6_best (sq : Int32) (cg : Int32) (cV : Nat → Nat → Int32) (dFp : Int32) (dFt : Int32) (dFg : Int32) (dFS : Nat → Int32) (dQc : Int32) (dQg : Int32) (dQk : Int32) (dSp : Int32) (dST : Nat → Int32) (dTO : Nat → Int32) (dAH : Nat → Nat → Int32) (dPA : Nat → Nat → Int32) (dGR : Nat → Int32) (drT : Nat → Int32) (drs : Int32) (drg : Int32) (a1 : Int32) (Z : Int32 → Int32 → Int32 → Int32 → Int32 → (Nat → Int32) → Int32 → Int32 → Int32 → Int32 → (Nat → Int32) → (Nat → Int32) → (Nat → Nat → Int32) → (Nat → Nat → Int32) → (Nat → Int32) → (Nat → Int32) → Int32 → Int32 → Prop) : Prop := ((a1 < (0 : Int32) → (Z (-1 : Int32) sq dFp dFt dFg dFS dQc dQg dQk dSp dST dTO dAH dPA dGR drT drs drg)) ∧ (¬ a1 < (0 : Int32) → ((a1 ≤ (5 : Int32) → (((1 : Int32) ≤ cg → (Wp_X6_searchOnce sq cg cV dFp dFt dFg dFS dQc dQg dQk dSp dST dTO dAH dPA dGR drT drs drg (fun sq_4 dFp_5 dFt_6 dFg_7 dFS_8 dQc_9 dQg_10 dQk_11 dSp_12 dST_13 dTO_14 dAH_15 dPA_16 dGR_17 drT_18 drs_19 drg_20 => ((a1 = (0 : Int32) → (Wp_X6_lowestNumerator dFp_5 dFt_6 (fun r_21 => (Z r_21 sq_4 dFp_5 dFt_6 dFg_7 dFS_8 dQc_9 dQg_10 dQk_11 dSp_12 dST_13 dTO_14 dAH_15 dPA_16 dGR_17 drT_18 drs_19 drg_20)))) ∧ (a1 = (1 : Int32) → (Wp_X6_lowestDenominator dFp_5 dFt_6 (fun r_22 => (Z r_22 sq_4 dFp_5 dFt_6 dFg_7 dFS_8 dQc_9 dQg_10 dQk_11 dSp_12 dST_13 dTO_14 dAH_15 dPA_16 dGR_17 drT_18 drs_19 drg_20)))) ∧ (a1 = (2 : Int32) → (Z dFg_7 sq_4 dFp_5 dFt_6 dFg_7 dFS_8 dQc_9 dQg_10 dQk_11 dSp_12 dST_13 dTO_14 dAH_15 dPA_16 dGR_17 drT_18 drs_19 drg_20)) ∧ ((a1.toInt < 0 ∨ 2 < a1.toInt) → ((cg ≤ (a1 - (2 : Int32)) → (Z (-9 : Int32) sq_4 dFp_5 dFt_6 dFg_7 dFS_8 dQc_9 dQg_10 dQk_11 dSp_12 dST_13 dTO_14 dAH_15 dPA_16 dGR_17 drT_18 drs_19 drg_20)) ∧ (¬ cg ≤ (a1 - (2 : Int32)) → (vp_in (a1 - (2 : Int32)) 4 ∧ (Z (dFS_8 (a1 - (2 : Int32)).toNatClampNeg) sq_4 dFp_5 dFt_6 dFg_7 dFS_8 dQc_9 dQg_10 dQk_11 dSp_12 dST_13 dTO_14 dAH_15 dPA_16 dGR_17 drT_18 drs_19 drg_20))))))))) ∧ (¬ (1 : Int32) ≤ cg → (Z (-2 : Int32) sq dFp dFt dFg dFS dQc dQg dQk dSp dST dTO dAH dPA dGR drT drs drg)))) ∧ (¬ a1 ≤ (5 : Int32) → (Z (-1 : Int32) sq dFp dFt dFg dFS dQc dQg dQk dSp dST dTO dAH dPA dGR drT drs drg)))))
theorem in_X6_best_X0 : ∀ w ∈ u_ws RX0 TX0 3, w ∈ wsX6_best := fun w h => List.mem_cons_of_mem _ (List.mem_append_left _ (List.mem_append_left _ (List.mem_append_right _ h)))
theorem in_X6_best_X1 : ∀ w ∈ u_ws RX1 TX1 14, w ∈ wsX6_best := fun w h => List.mem_cons_of_mem _ (List.mem_append_left _ (List.mem_append_right _ h))
theorem in_X6_best_X6 : ∀ w ∈ u_ws RX6 TX6 8, w ∈ wsX6_best := fun w h => List.mem_cons_of_mem _ (List.mem_append_left _ (List.mem_append_left _ (List.mem_append_left _ (List.mem_append_right _ h))))
set_option maxHeartbeats 20000000 in
set_option maxRecDepth 100000 in
theorem c_X6_best (l : Launch) (dC : Nat → ClassId) (dI : Nat → Nat → Nat) (kI kA kC : ClassId) (so : Nat) (co : Nat) (sh : Nat) (xo : Nat) (mo : Nat) (no : Nat) (djo : Nat) (ca : Nat) (cv : Nat) (cr : Nat → Nat) (dfs : Nat) (dro : Nat) (dst : Nat) (dto : Nat) (dah : Nat) (dar : Nat → Nat) (dpa : Nat) (dpr : Nat → Nat) (dgr : Nat) (dra : Nat) (sz : Nat) (ss : Int32) (sq : Int32) (cg : Int32) (cw : Nat → Int32) (cV : Nat → Nat → Int32) (dFp : Int32) (dFt : Int32) (dFg : Int32) (dFS : Nat → Int32) (dQc : Int32) (dQg : Int32) (dQk : Int32) (dSp : Int32) (dST : Nat → Int32) (dTO : Nat → Int32) (dAH : Nat → Nat → Int32) (dPA : Nat → Nat → Int32) (dGR : Nat → Int32) (drT : Nat → Int32) (drs : Int32) (drg : Int32) (a1 : Int32) (Z : Int32 → Int32 → Int32 → Int32 → Int32 → (Nat → Int32) → Int32 → Int32 → Int32 → Int32 → (Nat → Int32) → (Nat → Int32) → (Nat → Nat → Int32) → (Nat → Nat → Int32) → (Nat → Int32) → (Nat → Int32) → Int32 → Int32 → Prop) (hw : Wp_X6_best sq cg cV dFp dFt dFg dFS dQc dQg dQk dSp dST dTO dAH dPA dGR drT drs drg a1 Z) : zI l yX6_best wsX6_best ({ frames := 6, cells := 0, slots := 0, locals := 135 }) dC dI kI kA kC sz 0 0 [.ref so, .int a1] ((kRoot so co sh xo mo no djo ss sq) ++ ((kCake kI kA co ca cv cr cg cw cV) ++ ((kDiv kI kA djo dfs dro dst dto dah dar dpa dpr dgr dFp dFt dFg dFS dQc dQg dQk dSp dST dTO dAH dPA dGR) ++ (kRow kI dro dra drT drs drg)))) (fun (r : Int32) (u : Int32 × Int32 × Int32 × Int32 × (Nat → Int32) × Int32 × Int32 × Int32 × Int32 × (Nat → Int32) × (Nat → Int32) × (Nat → Nat → Int32) × (Nat → Nat → Int32) × (Nat → Int32) × (Nat → Int32) × Int32 × Int32) => Z r u.1 u.2.1 u.2.2.1 u.2.2.2.1 u.2.2.2.2.1 u.2.2.2.2.2.1 u.2.2.2.2.2.2.1 u.2.2.2.2.2.2.2.1 u.2.2.2.2.2.2.2.2.1 u.2.2.2.2.2.2.2.2.2.1 u.2.2.2.2.2.2.2.2.2.2.1 u.2.2.2.2.2.2.2.2.2.2.2.1 u.2.2.2.2.2.2.2.2.2.2.2.2.1 u.2.2.2.2.2.2.2.2.2.2.2.2.2.1 u.2.2.2.2.2.2.2.2.2.2.2.2.2.2.1 u.2.2.2.2.2.2.2.2.2.2.2.2.2.2.2.1 u.2.2.2.2.2.2.2.2.2.2.2.2.2.2.2.2) (fun (u : Int32 × Int32 × Int32 × Int32 × (Nat → Int32) × Int32 × Int32 × Int32 × Int32 × (Nat → Int32) × (Nat → Int32) × (Nat → Nat → Int32) × (Nat → Nat → Int32) × (Nat → Int32) × (Nat → Int32) × Int32 × Int32) => ((kRoot so co sh xo mo no djo ss u.1) ++ ((kCake kI kA co ca cv cr cg cw cV) ++ ((kDiv kI kA djo dfs dro dst dto dah dar dpa dpr dgr u.2.1 u.2.2.1 u.2.2.2.1 u.2.2.2.2.1 u.2.2.2.2.2.1 u.2.2.2.2.2.2.1 u.2.2.2.2.2.2.2.1 u.2.2.2.2.2.2.2.2.1 u.2.2.2.2.2.2.2.2.2.1 u.2.2.2.2.2.2.2.2.2.2.1 u.2.2.2.2.2.2.2.2.2.2.2.1 u.2.2.2.2.2.2.2.2.2.2.2.2.1 u.2.2.2.2.2.2.2.2.2.2.2.2.2.1) ++ (kRow kI dro dra u.2.2.2.2.2.2.2.2.2.2.2.2.2.2.1 u.2.2.2.2.2.2.2.2.2.2.2.2.2.2.2.1 u.2.2.2.2.2.2.2.2.2.2.2.2.2.2.2.2))))) := by
  refine zI.of (cc := cX6_best) (maxL := 3) (ty := .int) (by decide) rfl (Nat.le_of_ble_eq_true rfl) (Or.inl rfl) ?_
  intro p e s m args below meth c A Q C0 hret ls hl
  obtain ⟨hx, hb, hr, hml, hts, hown, hin, hP, hK, hD, hA, hS⟩ := C0
  have hown : s.vm.findClass RX6 = some m.cls := hown
  have hl : lv_has ls 3 [(0, .ref so), (1, .int a1)] := hl
  unfold Wp_X6_best at hw
  refine lv_iload_n hx hb dX6_best_0 rfl (lv_at hl 1 rfl) ?_
  refine lv_if_lt (tgt := 9) hx hb dX6_best_1 (by decide) (fun c_1 => ?_) (fun c_1 => ?_)
  · have hw := hw.1 c_1
    refine lv_iconst (v := (-1 : Int32)) hx hb dX6_best_9 (by decide) ?_
    exact hret 10 (-1 : Int32) (sq, dFp, dFt, dFg, dFS, dQc, dQg, dQk, dSp, dST, dTO, dAH, dPA, dGR, drT, drs, drg) _ _ _ (fun h => absurd h (by decide)) hw hP hD hS dX6_best_10
  · have hw := hw.2 c_1
    refine lv_iload_n hx hb dX6_best_4 rfl (lv_at hl 1 rfl) ?_
    refine lv_iconst (v := (5 : Int32)) hx hb dX6_best_5 (by decide) ?_
    refine lv_icmp_le (tgt := 11) hx hb dX6_best_6 (by decide) (fun c_2 => ?_) (fun c_2 => ?_)
    · have hw := hw.1 c_2
      refine lv_aload_n hx hb dX6_best_11 rfl (lv_at hl 0 rfl) ?_
      refine va_get (D := (dC, dI)) (ci := 6) (v := .ref co) (C := RX6) (T := TX6) (N := 8) hx hb hts in_X6_best_X6 hown hK hP 0 rfl rfl 0 (by decide) (hts (.fieldLink RX6 10 "CakeMarks" "cake" "LCakeMarks$Cake;") (List.mem_of_getElem? (i := 1) rfl)) (fun _ h9 => h9) rfl dX6_best_12 ?_
      refine va_get (D := (dC, dI)) (ci := 0) (v := .int cg) (C := RX0) (T := TX0) (N := 3) hx hb hts in_X6_best_X0 hown hK hP 1 rfl rfl 0 (by decide) (hts (.fieldLink RX6 56 "CakeMarks$Cake" "guests" "I") (List.mem_of_getElem? (i := 2) rfl)) (fun _ h9 => h9) rfl dX6_best_15 ?_
      refine lv_iconst (v := (1 : Int32)) hx hb dX6_best_18 (by decide) ?_
      refine lv_icmp_ge (tgt := 25) hx hb dX6_best_19 (by decide) (fun c_3 => ?_) (fun c_3 => ?_)
      · have hw := hw.1 c_3
        refine lv_aload_n hx hb dX6_best_25 rfl (lv_at hl 0 rfl) ?_
        refine zcallV (ci := 6) (q0 := 0) (As := []) (rest := []) (wr := ([] : va_W)) (Wn := fun u => ((kRoot so co sh xo mo no djo ss u.1) ++ ((kCake kI kA co ca cv cr cg cw cV) ++ ((kDiv kI kA djo dfs dro dst dto dah dar dpa dpr dgr u.2.1 u.2.2.1 u.2.2.2.1 u.2.2.2.2.1 u.2.2.2.2.2.1 u.2.2.2.2.2.2.1 u.2.2.2.2.2.2.2.1 u.2.2.2.2.2.2.2.2.1 u.2.2.2.2.2.2.2.2.2.1 u.2.2.2.2.2.2.2.2.2.2.1 u.2.2.2.2.2.2.2.2.2.2.2.1 u.2.2.2.2.2.2.2.2.2.2.2.2.1 u.2.2.2.2.2.2.2.2.2.2.2.2.2.1) ++ (kRow kI dro dra u.2.2.2.2.2.2.2.2.2.2.2.2.2.2.1 u.2.2.2.2.2.2.2.2.2.2.2.2.2.2.2.1 u.2.2.2.2.2.2.2.2.2.2.2.2.2.2.2.2))))) ⟨hx, hb, hml, hown, hts⟩ (c_X6_searchOnce l dC dI kI kA kC so co sh xo mo no djo ca cv cr dfs dro dst dto dah dar dpa dpr dgr dra _ ss sq cg cw cV dFp dFt dFg dFS dQc dQg dQk dSp dST dTO dAH dPA dGR drT drs drg _ hw) (cwV 0 hts gX6_best_X6_searchOnce rfl rfl rfl (by decide +kernel) ⟨Nat.le_of_ble_eq_true rfl, Nat.le_of_ble_eq_true rfl⟩) hK hP hD hS hA [0, 1, 2, 3, 4, 5, 6, 7, 8, 9, 10, 11, 12, 13, 14, 15, 16, 17, 18, 19, 20, 21, 22, 23, 24] [] [0, 1, 2, 3, 4, 5, 6, 7, 8, 9, 10, 11, 12, 13, 14, 15, 16, 17, 18, 19, 20, 21, 22, 23, 24] rfl rfl (by decide) (by decide) (by decide) (fun u => rfl) (by decide) rfl rfl rfl rfl hl.1 rfl (Nat.le_of_ble_eq_true rfl) dX6_best_26 ⟨Nat.zero_le _, Nat.zero_le _⟩ (fun u H locs hw hP hD hS => ?_)
        obtain ⟨sq_4, dFp_5, dFt_6, dFg_7, dFS_8, dQc_9, dQg_10, dQk_11, dSp_12, dST_13, dTO_14, dAH_15, dPA_16, dGR_17, drT_18, drs_19, drg_20⟩ := u
        have hP : va_P (dC, dI) vwCl ((kRoot so co sh xo mo no djo ss sq_4) ++ ((kCake kI kA co ca cv cr cg cw cV) ++ ((kDiv kI kA djo dfs dro dst dto dah dar dpa dpr dgr dFp_5 dFt_6 dFg_7 dFS_8 dQc_9 dQg_10 dQk_11 dSp_12 dST_13 dTO_14 dAH_15 dPA_16 dGR_17) ++ (kRow kI dro dra drT_18 drs_19 drg_20)))) H := hP
        have hD : va_D A ((kRoot so co sh xo mo no djo ss sq_4) ++ ((kCake kI kA co ca cv cr cg cw cV) ++ ((kDiv kI kA djo dfs dro dst dto dah dar dpa dpr dgr dFp_5 dFt_6 dFg_7 dFS_8 dQc_9 dQg_10 dQk_11 dSp_12 dST_13 dTO_14 dAH_15 dPA_16 dGR_17) ++ (kRow kI dro dra drT_18 drs_19 drg_20)))) := hD
        refine lv_iload_n hx hb dX6_best_29 rfl (lv_at hl 1 rfl) ?_
        rcases z_sw 2 a1 with c_25 | ⟨k, hk, c_25⟩
        · have hw := hw.2.2.2 c_25
          refine lv_tableOut (tgt := 100) hx hb dX6_best_30 c_25 (by decide) ?_
          refine lv_iload_n hx hb dX6_best_100 rfl (lv_at hl 1 rfl) ?_
          refine lv_iconst (v := (2 : Int32)) hx hb dX6_best_101 (by decide) ?_
          refine lv_isub hx hb dX6_best_102 ?_
          refine lv_istore_n (lv' := [(2, .int (a1 - (2 : Int32))), (0, .ref so), (1, .int a1)]) hx hb dX6_best_103 rfl hl (by decide) rfl (fun ls hl => ?_)
          refine lv_iload_n hx hb dX6_best_104 rfl (lv_at hl 0 rfl) ?_
          refine lv_aload_n hx hb dX6_best_105 rfl (lv_at hl 1 rfl) ?_
          refine va_get (D := (dC, dI)) (ci := 6) (v := .ref co) (C := RX6) (T := TX6) (N := 8) hx hb hts in_X6_best_X6 hown hK hP 0 rfl rfl 0 (by decide) (hts (.fieldLink RX6 10 "CakeMarks" "cake" "LCakeMarks$Cake;") (List.mem_of_getElem? (i := 1) rfl)) (fun _ h9 => h9) rfl dX6_best_106 ?_
          refine va_get (D := (dC, dI)) (ci := 0) (v := .int cg) (C := RX0) (T := TX0) (N := 3) hx hb hts in_X6_best_X0 hown hK hP 1 rfl rfl 0 (by decide) (hts (.fieldLink RX6 56 "CakeMarks$Cake" "guests" "I") (List.mem_of_getElem? (i := 2) rfl)) (fun _ h9 => h9) rfl dX6_best_109 ?_
          refine lv_icmp_ge (tgt := 127) hx hb dX6_best_112 (by decide) (fun c_23 => ?_) (fun c_23 => ?_)
          · have hw := hw.1 c_23
            refine lv_bipush (v := (-9 : Int32)) hx hb dX6_best_127 (by decide) ?_
            exact hret 129 (-9 : Int32) (sq_4, dFp_5, dFt_6, dFg_7, dFS_8, dQc_9, dQg_10, dQk_11, dSp_12, dST_13, dTO_14, dAH_15, dPA_16, dGR_17, drT_18, drs_19, drg_20) _ _ _ (fun h => absurd h (by decide)) hw hP hD hS dX6_best_129
          · have hw := hw.2 c_23
            refine lv_aload_n hx hb dX6_best_115 rfl (lv_at hl 1 rfl) ?_
            refine va_get (D := (dC, dI)) (ci := 6) (v := .ref djo) (C := RX6) (T := TX6) (N := 8) hx hb hts in_X6_best_X6 hown hK hP 0 rfl rfl 6 (by decide) (hts (.fieldLink RX6 48 "CakeMarks" "divisions" "LCakeMarks$Divisions;") (List.mem_of_getElem? (i := 3) rfl)) (fun _ h9 => h9) rfl dX6_best_116 ?_
            refine va_get (D := (dC, dI)) (ci := 1) (v := .ref dfs) (C := RX1) (T := TX1) (N := 14) hx hb hts in_X6_best_X1 hown hK hP 8 rfl rfl 3 (by decide) (hts (.fieldLink RX6 200 "CakeMarks$Divisions" "fairStart" "[I") (List.mem_of_getElem? (i := 7) rfl)) (fun _ h9 => h9) rfl dX6_best_119 ?_
            refine lv_iload_n hx hb dX6_best_122 rfl (lv_at hl 0 rfl) ?_
            obtain ⟨h_24, hw⟩ := hw
            refine va_iald hx hb hK hP 9 0 rfl rfl h_24 dX6_best_123 ?_
            refine lv_goto (tgt := 129) hx hb dX6_best_124 (by decide) ?_
            exact hret 129 (dFS_8 (a1 - (2 : Int32)).toNatClampNeg) (sq_4, dFp_5, dFt_6, dFg_7, dFS_8, dQc_9, dQg_10, dQk_11, dSp_12, dST_13, dTO_14, dAH_15, dPA_16, dGR_17, drT_18, drs_19, drg_20) _ _ _ (fun h => absurd h (by decide)) hw hP hD hS dX6_best_129
        · rcases (show k = 0 ∨ k = 1 ∨ k = 2 by omega) with rfl | rfl | rfl
          · have c_25 : a1 = (0 : Int32) := c_25
            have hw := hw.1 c_25
            refine lv_tableIn (off := 26) (tgt := 56) hx hb dX6_best_30 (by rw [c_25]; decide) (by rw [c_25]; decide) (by rw [c_25]; decide) (by decide) ?_
            refine lv_aload_n hx hb dX6_best_56 rfl (lv_at hl 0 rfl) ?_
            refine va_get (D := (dC, dI)) (ci := 6) (v := .ref djo) (C := RX6) (T := TX6) (N := 8) hx hb hts in_X6_best_X6 hown hK hP 0 rfl rfl 6 (by decide) (hts (.fieldLink RX6 48 "CakeMarks" "divisions" "LCakeMarks$Divisions;") (List.mem_of_getElem? (i := 3) rfl)) (fun _ h9 => h9) rfl dX6_best_57 ?_
            refine va_get (D := (dC, dI)) (ci := 1) (v := .int dFp_5) (C := RX1) (T := TX1) (N := 14) hx hb hts in_X6_best_X1 hown hK hP 8 rfl rfl 0 (by decide) (hts (.fieldLink RX6 191 "CakeMarks$Divisions" "fairPart" "I") (List.mem_of_getElem? (i := 4) rfl)) (fun _ h9 => h9) rfl dX6_best_60 ?_
            refine lv_aload_n hx hb dX6_best_63 rfl (lv_at hl 0 rfl) ?_
            refine va_get (D := (dC, dI)) (ci := 6) (v := .ref djo) (C := RX6) (T := TX6) (N := 8) hx hb hts in_X6_best_X6 hown hK hP 0 rfl rfl 6 (by decide) (hts (.fieldLink RX6 48 "CakeMarks" "divisions" "LCakeMarks$Divisions;") (List.mem_of_getElem? (i := 3) rfl)) (fun _ h9 => h9) rfl dX6_best_64 ?_
            refine va_get (D := (dC, dI)) (ci := 1) (v := .int dFt_6) (C := RX1) (T := TX1) (N := 14) hx hb hts in_X6_best_X1 hown hK hP 8 rfl rfl 1 (by decide) (hts (.fieldLink RX6 194 "CakeMarks$Divisions" "fairTotal" "I") (List.mem_of_getElem? (i := 5) rfl)) (fun _ h9 => h9) rfl dX6_best_67 ?_
            refine zcallS (As := [.int dFp_5, .int dFt_6]) (rest := []) (wr := ((kRoot so co sh xo mo no djo ss sq_4) ++ ((kCake kI kA co ca cv cr cg cw cV) ++ ((kDiv kI kA djo dfs dro dst dto dah dar dpa dpr dgr dFp_5 dFt_6 dFg_7 dFS_8 dQc_9 dQg_10 dQk_11 dSp_12 dST_13 dTO_14 dAH_15 dPA_16 dGR_17) ++ (kRow kI dro dra drT_18 drs_19 drg_20))))) (Wn := fun u => ((kRoot so co sh xo mo no djo ss sq_4) ++ ((kCake kI kA co ca cv cr cg cw cV) ++ ((kDiv kI kA djo dfs dro dst dto dah dar dpa dpr dgr dFp_5 dFt_6 dFg_7 dFS_8 dQc_9 dQg_10 dQk_11 dSp_12 dST_13 dTO_14 dAH_15 dPA_16 dGR_17) ++ (kRow kI dro dra drT_18 drs_19 drg_20))))) ⟨hx, hb, hml, hown, hts⟩ (c_X6_lowestNumerator l dC dI kI kA kC _ dFp_5 dFt_6 _ hw) (va_cwS 2 hts gX6_best_X6_lowestNumerator rfl rfl rfl (by decide +kernel) ⟨Nat.le_of_ble_eq_true rfl, Nat.le_of_ble_eq_true rfl⟩) hK hP hD hS hA [] [0, 1, 2, 3, 4, 5, 6, 7, 8, 9, 10, 11, 12, 13, 14, 15, 16, 17, 18, 19, 20, 21, 22, 23, 24] [0, 1, 2, 3, 4, 5, 6, 7, 8, 9, 10, 11, 12, 13, 14, 15, 16, 17, 18, 19, 20, 21, 22, 23, 24] rfl rfl (by decide) (by decide) (by decide) (fun u => rfl) (by decide) rfl hl.1 rfl (Nat.le_of_ble_eq_true rfl) dX6_best_70 ⟨Nat.zero_le _, Nat.zero_le _⟩ (fun r_21 u H locs hw hP hD hS => ?_)
            have hP : va_P (dC, dI) vwCl ((kRoot so co sh xo mo no djo ss sq_4) ++ ((kCake kI kA co ca cv cr cg cw cV) ++ ((kDiv kI kA djo dfs dro dst dto dah dar dpa dpr dgr dFp_5 dFt_6 dFg_7 dFS_8 dQc_9 dQg_10 dQk_11 dSp_12 dST_13 dTO_14 dAH_15 dPA_16 dGR_17) ++ (kRow kI dro dra drT_18 drs_19 drg_20)))) H := hP
            have hD : va_D A ((kRoot so co sh xo mo no djo ss sq_4) ++ ((kCake kI kA co ca cv cr cg cw cV) ++ ((kDiv kI kA djo dfs dro dst dto dah dar dpa dpr dgr dFp_5 dFt_6 dFg_7 dFS_8 dQc_9 dQg_10 dQk_11 dSp_12 dST_13 dTO_14 dAH_15 dPA_16 dGR_17) ++ (kRow kI dro dra drT_18 drs_19 drg_20)))) := hD
            exact hret 73 r_21 (sq_4, dFp_5, dFt_6, dFg_7, dFS_8, dQc_9, dQg_10, dQk_11, dSp_12, dST_13, dTO_14, dAH_15, dPA_16, dGR_17, drT_18, drs_19, drg_20) _ _ _ (fun h => absurd h (by decide)) hw hP hD hS dX6_best_73
          · have c_25 : a1 = (1 : Int32) := c_25
            have hw := hw.2.1 c_25
            refine lv_tableIn (off := 44) (tgt := 74) hx hb dX6_best_30 (by rw [c_25]; decide) (by rw [c_25]; decide) (by rw [c_25]; decide) (by decide) ?_
            refine lv_aload_n hx hb dX6_best_74 rfl (lv_at hl 0 rfl) ?_
            refine va_get (D := (dC, dI)) (ci := 6) (v := .ref djo) (C := RX6) (T := TX6) (N := 8) hx hb hts in_X6_best_X6 hown hK hP 0 rfl rfl 6 (by decide) (hts (.fieldLink RX6 48 "CakeMarks" "divisions" "LCakeMarks$Divisions;") (List.mem_of_getElem? (i := 3) rfl)) (fun _ h9 => h9) rfl dX6_best_75 ?_
            refine va_get (D := (dC, dI)) (ci := 1) (v := .int dFp_5) (C := RX1) (T := TX1) (N := 14) hx hb hts in_X6_best_X1 hown hK hP 8 rfl rfl 0 (by decide) (hts (.fieldLink RX6 191 "CakeMarks$Divisions" "fairPart" "I") (List.mem_of_getElem? (i := 4) rfl)) (fun _ h9 => h9) rfl dX6_best_78 ?_
            refine lv_aload_n hx hb dX6_best_81 rfl (lv_at hl 0 rfl) ?_
            refine va_get (D := (dC, dI)) (ci := 6) (v := .ref djo) (C := RX6) (T := TX6) (N := 8) hx hb hts in_X6_best_X6 hown hK hP 0 rfl rfl 6 (by decide) (hts (.fieldLink RX6 48 "CakeMarks" "divisions" "LCakeMarks$Divisions;") (List.mem_of_getElem? (i := 3) rfl)) (fun _ h9 => h9) rfl dX6_best_82 ?_
            refine va_get (D := (dC, dI)) (ci := 1) (v := .int dFt_6) (C := RX1) (T := TX1) (N := 14) hx hb hts in_X6_best_X1 hown hK hP 8 rfl rfl 1 (by decide) (hts (.fieldLink RX6 194 "CakeMarks$Divisions" "fairTotal" "I") (List.mem_of_getElem? (i := 5) rfl)) (fun _ h9 => h9) rfl dX6_best_85 ?_
            refine zcallS (As := [.int dFp_5, .int dFt_6]) (rest := []) (wr := ((kRoot so co sh xo mo no djo ss sq_4) ++ ((kCake kI kA co ca cv cr cg cw cV) ++ ((kDiv kI kA djo dfs dro dst dto dah dar dpa dpr dgr dFp_5 dFt_6 dFg_7 dFS_8 dQc_9 dQg_10 dQk_11 dSp_12 dST_13 dTO_14 dAH_15 dPA_16 dGR_17) ++ (kRow kI dro dra drT_18 drs_19 drg_20))))) (Wn := fun u => ((kRoot so co sh xo mo no djo ss sq_4) ++ ((kCake kI kA co ca cv cr cg cw cV) ++ ((kDiv kI kA djo dfs dro dst dto dah dar dpa dpr dgr dFp_5 dFt_6 dFg_7 dFS_8 dQc_9 dQg_10 dQk_11 dSp_12 dST_13 dTO_14 dAH_15 dPA_16 dGR_17) ++ (kRow kI dro dra drT_18 drs_19 drg_20))))) ⟨hx, hb, hml, hown, hts⟩ (c_X6_lowestDenominator l dC dI kI kA kC _ dFp_5 dFt_6 _ hw) (va_cwS 2 hts gX6_best_X6_lowestDenominator rfl rfl rfl (by decide +kernel) ⟨Nat.le_of_ble_eq_true rfl, Nat.le_of_ble_eq_true rfl⟩) hK hP hD hS hA [] [0, 1, 2, 3, 4, 5, 6, 7, 8, 9, 10, 11, 12, 13, 14, 15, 16, 17, 18, 19, 20, 21, 22, 23, 24] [0, 1, 2, 3, 4, 5, 6, 7, 8, 9, 10, 11, 12, 13, 14, 15, 16, 17, 18, 19, 20, 21, 22, 23, 24] rfl rfl (by decide) (by decide) (by decide) (fun u => rfl) (by decide) rfl hl.1 rfl (Nat.le_of_ble_eq_true rfl) dX6_best_88 ⟨Nat.zero_le _, Nat.zero_le _⟩ (fun r_22 u H locs hw hP hD hS => ?_)
            have hP : va_P (dC, dI) vwCl ((kRoot so co sh xo mo no djo ss sq_4) ++ ((kCake kI kA co ca cv cr cg cw cV) ++ ((kDiv kI kA djo dfs dro dst dto dah dar dpa dpr dgr dFp_5 dFt_6 dFg_7 dFS_8 dQc_9 dQg_10 dQk_11 dSp_12 dST_13 dTO_14 dAH_15 dPA_16 dGR_17) ++ (kRow kI dro dra drT_18 drs_19 drg_20)))) H := hP
            have hD : va_D A ((kRoot so co sh xo mo no djo ss sq_4) ++ ((kCake kI kA co ca cv cr cg cw cV) ++ ((kDiv kI kA djo dfs dro dst dto dah dar dpa dpr dgr dFp_5 dFt_6 dFg_7 dFS_8 dQc_9 dQg_10 dQk_11 dSp_12 dST_13 dTO_14 dAH_15 dPA_16 dGR_17) ++ (kRow kI dro dra drT_18 drs_19 drg_20)))) := hD
            exact hret 91 r_22 (sq_4, dFp_5, dFt_6, dFg_7, dFS_8, dQc_9, dQg_10, dQk_11, dSp_12, dST_13, dTO_14, dAH_15, dPA_16, dGR_17, drT_18, drs_19, drg_20) _ _ _ (fun h => absurd h (by decide)) hw hP hD hS dX6_best_91
          · have c_25 : a1 = (2 : Int32) := c_25
            have hw := hw.2.2.1 c_25
            refine lv_tableIn (off := 62) (tgt := 92) hx hb dX6_best_30 (by rw [c_25]; decide) (by rw [c_25]; decide) (by rw [c_25]; decide) (by decide) ?_
            refine lv_aload_n hx hb dX6_best_92 rfl (lv_at hl 0 rfl) ?_
            refine va_get (D := (dC, dI)) (ci := 6) (v := .ref djo) (C := RX6) (T := TX6) (N := 8) hx hb hts in_X6_best_X6 hown hK hP 0 rfl rfl 6 (by decide) (hts (.fieldLink RX6 48 "CakeMarks" "divisions" "LCakeMarks$Divisions;") (List.mem_of_getElem? (i := 3) rfl)) (fun _ h9 => h9) rfl dX6_best_93 ?_
            refine va_get (D := (dC, dI)) (ci := 1) (v := .int dFg_7) (C := RX1) (T := TX1) (N := 14) hx hb hts in_X6_best_X1 hown hK hP 8 rfl rfl 2 (by decide) (hts (.fieldLink RX6 197 "CakeMarks$Divisions" "fairGuest" "I") (List.mem_of_getElem? (i := 6) rfl)) (fun _ h9 => h9) rfl dX6_best_96 ?_
            exact hret 99 dFg_7 (sq_4, dFp_5, dFt_6, dFg_7, dFS_8, dQc_9, dQg_10, dQk_11, dSp_12, dST_13, dTO_14, dAH_15, dPA_16, dGR_17, drT_18, drs_19, drg_20) _ _ _ (fun h => absurd h (by decide)) hw hP hD hS dX6_best_99
      · have hw := hw.2 c_3
        refine lv_bipush (v := (-2 : Int32)) hx hb dX6_best_22 (by decide) ?_
        exact hret 24 (-2 : Int32) (sq, dFp, dFt, dFg, dFS, dQc, dQg, dQk, dSp, dST, dTO, dAH, dPA, dGR, drT, drs, drg) _ _ _ (fun h => absurd h (by decide)) hw hP hD hS dX6_best_24
    · have hw := hw.2 c_2
      refine lv_iconst (v := (-1 : Int32)) hx hb dX6_best_9 (by decide) ?_
      exact hret 10 (-1 : Int32) (sq, dFp, dFt, dFg, dFS, dQc, dQg, dQk, dSp, dST, dTO, dAH, dPA, dGR, drT, drs, drg) _ _ _ (fun h => absurd h (by decide)) hw hP hD hS dX6_best_10
