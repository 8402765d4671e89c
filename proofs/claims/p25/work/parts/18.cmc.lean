-- CakeMarks.calm(I)I
def Wp_X6_calm (sq : Int32) (cg : Int32) (cV : Nat → Nat → Int32) (dFp : Int32) (dFt : Int32) (dFg : Int32) (dFS : Nat → Int32) (dQc : Int32) (dQg : Int32) (dQk : Int32) (dSp : Int32) (dST : Nat → Int32) (dTO : Nat → Int32) (dAH : Nat → Nat → Int32) (dPA : Nat → Nat → Int32) (dGR : Nat → Int32) (drT : Nat → Int32) (drs : Int32) (drg : Int32) (a1 : Int32) (Z : Int32 → Int32 → Int32 → Int32 → Int32 → (Nat → Int32) → Int32 → Int32 → Int32 → Int32 → (Nat → Int32) → (Nat → Int32) → (Nat → Nat → Int32) → (Nat → Nat → Int32) → (Nat → Int32) → (Nat → Int32) → Int32 → Int32 → Prop) : Prop := ((a1 < (0 : Int32) → (Z (-1 : Int32) sq dFp dFt dFg dFS dQc dQg dQk dSp dST dTO dAH dPA dGR drT drs drg)) ∧ (¬ a1 < (0 : Int32) → ((a1 ≤ (2 : Int32) → (((2 : Int32) ≤ cg → (Wp_X6_searchOnce sq cg cV dFp dFt dFg dFS dQc dQg dQk dSp dST dTO dAH dPA dGR drT drs drg (fun sq_4 dFp_5 dFt_6 dFg_7 dFS_8 dQc_9 dQg_10 dQk_11 dSp_12 dST_13 dTO_14 dAH_15 dPA_16 dGR_17 drT_18 drs_19 drg_20 => ((¬ a1 = (0 : Int32) → ((¬ dQc_9 = (0 : Int32) → ((¬ a1 = (1 : Int32) → (Z dQk_11 sq_4 dFp_5 dFt_6 dFg_7 dFS_8 dQc_9 dQg_10 dQk_11 dSp_12 dST_13 dTO_14 dAH_15 dPA_16 dGR_17 drT_18 drs_19 drg_20)) ∧ (a1 = (1 : Int32) → (Z dQg_10 sq_4 dFp_5 dFt_6 dFg_7 dFS_8 dQc_9 dQg_10 dQk_11 dSp_12 dST_13 dTO_14 dAH_15 dPA_16 dGR_17 drT_18 drs_19 drg_20)))) ∧ (dQc_9 = (0 : Int32) → (Z (-9 : Int32) sq_4 dFp_5 dFt_6 dFg_7 dFS_8 dQc_9 dQg_10 dQk_11 dSp_12 dST_13 dTO_14 dAH_15 dPA_16 dGR_17 drT_18 drs_19 drg_20)))) ∧ (a1 = (0 : Int32) → (Z dQc_9 sq_4 dFp_5 dFt_6 dFg_7 dFS_8 dQc_9 dQg_10 dQk_11 dSp_12 dST_13 dTO_14 dAH_15 dPA_16 dGR_17 drT_18 drs_19 drg_20)))))) ∧ (¬ (2 : Int32) ≤ cg → (Z (-2 : Int32) sq dFp dFt dFg dFS dQc dQg dQk dSp dST dTO dAH dPA dGR drT drs drg)))) ∧ (¬ a1 ≤ (2 : Int32) → (Z (-1 : Int32) sq dFp dFt dFg dFS dQc dQg dQk dSp dST dTO dAH dPA dGR drT drs drg)))))
theorem in_X6_calm_X0 : ∀ w ∈ u_ws RX0 TX0 3, w ∈ wsX6_calm := fun w h => List.mem_cons_of_mem _ (List.mem_append_left _ (List.mem_append_left _ (List.mem_append_right _ h)))
theorem in_X6_calm_X1 : ∀ w ∈ u_ws RX1 TX1 14, w ∈ wsX6_calm := fun w h => List.mem_cons_of_mem _ (List.mem_append_left _ (List.mem_append_right _ h))
theorem in_X6_calm_X6 : ∀ w ∈ u_ws RX6 TX6 8, w ∈ wsX6_calm := fun w h => List.mem_cons_of_mem _ (List.mem_append_left _ (List.mem_append_left _ (List.mem_append_left _ (List.mem_append_right _ h))))
set_option maxHeartbeats 20000000 in
set_option maxRecDepth 100000 in
theorem c_X6_calm (l : Launch) (dC : Nat → ClassId) (dI : Nat → Nat → Nat) (kI kA kC : ClassId) (so : Nat) (co : Nat) (sh : Nat) (xo : Nat) (mo : Nat) (no : Nat) (djo : Nat) (ca : Nat) (cv : Nat) (cr : Nat → Nat) (dfs : Nat) (dro : Nat) (dst : Nat) (dto : Nat) (dah : Nat) (dar : Nat → Nat) (dpa : Nat) (dpr : Nat → Nat) (dgr : Nat) (dra : Nat) (sz : Nat) (ss : Int32) (sq : Int32) (cg : Int32) (cw : Nat → Int32) (cV : Nat → Nat → Int32) (dFp : Int32) (dFt : Int32) (dFg : Int32) (dFS : Nat → Int32) (dQc : Int32) (dQg : Int32) (dQk : Int32) (dSp : Int32) (dST : Nat → Int32) (dTO : Nat → Int32) (dAH : Nat → Nat → Int32) (dPA : Nat → Nat → Int32) (dGR : Nat → Int32) (drT : Nat → Int32) (drs : Int32) (drg : Int32) (a1 : Int32) (Z : Int32 → Int32 → Int32 → Int32 → Int32 → (Nat → Int32) → Int32 → Int32 → Int32 → Int32 → (Nat → Int32) → (Nat → Int32) → (Nat → Nat → Int32) → (Nat → Nat → Int32) → (Nat → Int32) → (Nat → Int32) → Int32 → Int32 → Prop) (hw : Wp_X6_calm sq cg cV dFp dFt dFg dFS dQc dQg dQk dSp dST dTO dAH dPA dGR drT drs drg a1 Z) : zI l yX6_calm wsX6_calm ({ frames := 6, cells := 0, slots := 0, locals := 135 }) dC dI kI kA kC sz 0 0 [.ref so, .int a1] ((kRoot so co sh xo mo no djo ss sq) ++ ((kCake kI kA co ca cv cr cg cw cV) ++ ((kDiv kI kA djo dfs dro dst dto dah dar dpa dpr dgr dFp dFt dFg dFS dQc dQg dQk dSp dST dTO dAH dPA dGR) ++ (kRow kI dro dra drT drs drg)))) (fun (r : Int32) (u : Int32 × Int32 × Int32 × Int32 × (Nat → Int32) × Int32 × Int32 × Int32 × Int32 × (Nat → Int32) × (Nat → Int32) × (Nat → Nat → Int32) × (Nat → Nat → Int32) × (Nat → Int32) × (Nat → Int32) × Int32 × Int32) => Z r u.1 u.2.1 u.2.2.1 u.2.2.2.1 u.2.2.2.2.1 u.2.2.2.2.2.1 u.2.2.2.2.2.2.1 u.2.2.2.2.2.2.2.1 u.2.2.2.2.2.2.2.2.1 u.2.2.2.2.2.2.2.2.2.1 u.2.2.2.2.2.2.2.2.2.2.1 u.2.2.2.2.2.2.2.2.2.2.2.1 u.2.2.2.2.2.2.2.2.2.2.2.2.1 u.2.2.2.2.2.2.2.2.2.2.2.2.2.1 u.2.2.2.2.2.2.2.2.2.2.2.2.2.2.1 u.2.2.2.2.2.2.2.2.2.2.2.2.2.2.2.1 u.2.2.2.2.2.2.2.2.2.2.2.2.2.2.2.2) (fun (u : Int32 × Int32 × Int32 × Int32 × (Nat → Int32) × Int32 × Int32 × Int32 × Int32 × (Nat → Int32) × (Nat → Int32) × (Nat → Nat → Int32) × (Nat → Nat → Int32) × (Nat → Int32) × (Nat → Int32) × Int32 × Int32) => ((kRoot so co sh xo mo no djo ss u.1) ++ ((kCake kI kA co ca cv cr cg cw cV) ++ ((kDiv kI kA djo dfs dro dst dto dah dar dpa dpr dgr u.2.1 u.2.2.1 u.2.2.2.1 u.2.2.2.2.1 u.2.2.2.2.2.1 u.2.2.2.2.2.2.1 u.2.2.2.2.2.2.2.1 u.2.2.2.2.2.2.2.2.1 u.2.2.2.2.2.2.2.2.2.1 u.2.2.2.2.2.2.2.2.2.2.1 u.2.2.2.2.2.2.2.2.2.2.2.1 u.2.2.2.2.2.2.2.2.2.2.2.2.1 u.2.2.2.2.2.2.2.2.2.2.2.2.2.1) ++ (kRow kI dro dra u.2.2.2.2.2.2.2.2.2.2.2.2.2.2.1 u.2.2.2.2.2.2.2.2.2.2.2.2.2.2.2.1 u.2.2.2.2.2.2.2.2.2.2.2.2.2.2.2.2))))) := by
  refine zI.of (cc := cX6_calm) (maxL := 2) (ty := .int) (by decide) rfl (Nat.le_of_ble_eq_true rfl) (Or.inl rfl) ?_
  intro p e s m args below meth c A Q C0 hret ls hl
  obtain ⟨hx, hb, hr, hml, hts, hown, hin, hP, hK, hD, hA, hS⟩ := C0
  have hown : s.vm.findClass RX6 = some m.cls := hown
  have hl : lv_has ls 2 [(0, .ref so), (1, .int a1)] := hl
  unfold Wp_X6_calm at hw
  refine lv_iload_n hx hb dX6_calm_0 rfl (lv_at hl 1 rfl) ?_
  refine lv_if_lt (tgt := 9) hx hb dX6_calm_1 (by decide) (fun c_1 => ?_) (fun c_1 => ?_)
  · have hw := hw.1 c_1
    refine lv_iconst (v := (-1 : Int32)) hx hb dX6_calm_9 (by decide) ?_
    exact hret 10 (-1 : Int32) (sq, dFp, dFt, dFg, dFS, dQc, dQg, dQk, dSp, dST, dTO, dAH, dPA, dGR, drT, drs, drg) _ _ _ (fun h => absurd h (by decide)) hw hP hD hS dX6_calm_10
  · have hw := hw.2 c_1
    refine lv_iload_n hx hb dX6_calm_4 rfl (lv_at hl 1 rfl) ?_
    refine lv_iconst (v := (2 : Int32)) hx hb dX6_calm_5 (by decide) ?_
    refine lv_icmp_le (tgt := 11) hx hb dX6_calm_6 (by decide) (fun c_2 => ?_) (fun c_2 => ?_)
    · have hw := hw.1 c_2
      refine lv_aload_n hx hb dX6_calm_11 rfl (lv_at hl 0 rfl) ?_
      refine va_get (D := (dC, dI)) (ci := 6) (v := .ref co) (C := RX6) (T := TX6) (N := 8) hx hb hts in_X6_calm_X6 hown hK hP 0 rfl rfl 0 (by decide) (hts (.fieldLink RX6 10 "CakeMarks" "cake" "LCakeMarks$Cake;") (List.mem_of_getElem? (i := 1) rfl)) (fun _ h9 => h9) rfl dX6_calm_12 ?_
      refine va_get (D := (dC, dI)) (ci := 0) (v := .int cg) (C := RX0) (T := TX0) (N := 3) hx hb hts in_X6_calm_X0 hown hK hP 1 rfl rfl 0 (by decide) (hts (.fieldLink RX6 56 "CakeMarks$Cake" "guests" "I") (List.mem_of_getElem? (i := 2) rfl)) (fun _ h9 => h9) rfl dX6_calm_15 ?_
      refine lv_iconst (v := (2 : Int32)) hx hb dX6_calm_18 (by decide) ?_
      refine lv_icmp_ge (tgt := 25) hx hb dX6_calm_19 (by decide) (fun c_3 => ?_) (fun c_3 => ?_)
      · have hw := hw.1 c_3
        refine lv_aload_n hx hb dX6_calm_25 rfl (lv_at hl 0 rfl) ?_
        refine zcallV (ci := 6) (q0 := 0) (As := []) (rest := []) (wr := ([] : va_W)) (Wn := fun u => ((kRoot so co sh xo mo no djo ss u.1) ++ ((kCake kI kA co ca cv cr cg cw cV) ++ ((kDiv kI kA djo dfs dro dst dto dah dar dpa dpr dgr u.2.1 u.2.2.1 u.2.2.2.1 u.2.2.2.2.1 u.2.2.2.2.2.1 u.2.2.2.2.2.2.1 u.2.2.2.2.2.2.2.1 u.2.2.2.2.2.2.2.2.1 u.2.2.2.2.2.2.2.2.2.1 u.2.2.2.2.2.2.2.2.2.2.1 u.2.2.2.2.2.2.2.2.2.2.2.1 u.2.2.2.2.2.2.2.2.2.2.2.2.1 u.2.2.2.2.2.2.2.2.2.2.2.2.2.1) ++ (kRow kI dro dra u.2.2.2.2.2.2.2.2.2.2.2.2.2.2.1 u.2.2.2.2.2.2.2.2.2.2.2.2.2.2.2.1 u.2.2.2.2.2.2.2.2.2.2.2.2.2.2.2.2))))) ⟨hx, hb, hml, hown, hts⟩ (c_X6_searchOnce l dC dI kI kA kC so co sh xo mo no djo ca cv cr dfs dro dst dto dah dar dpa dpr dgr dra _ ss sq cg cw cV dFp dFt dFg dFS dQc dQg dQk dSp dST dTO dAH dPA dGR drT drs drg _ hw) (cwV 0 hts gX6_calm_X6_searchOnce rfl rfl rfl (by decide +kernel) ⟨Nat.le_of_ble_eq_true rfl, Nat.le_of_ble_eq_true rfl⟩) hK hP hD hS hA [0, 1, 2, 3, 4, 5, 6, 7, 8, 9, 10, 11, 12, 13, 14, 15, 16, 17, 18, 19, 20, 21, 22, 23, 24] [] [0, 1, 2, 3, 4, 5, 6, 7, 8, 9, 10, 11, 12, 13, 14, 15, 16, 17, 18, 19, 20, 21, 22, 23, 24] rfl rfl (by decide) (by decide) (by decide) (fun u => rfl) (by decide) rfl rfl rfl rfl hl.1 rfl (Nat.le_of_ble_eq_true rfl) dX6_calm_26 ⟨Nat.zero_le _, Nat.zero_le _⟩ (fun u H locs hw hP hD hS => ?_)
        obtain ⟨sq_4, dFp_5, dFt_6, dFg_7, dFS_8, dQc_9, dQg_10, dQk_11, dSp_12, dST_13, dTO_14, dAH_15, dPA_16, dGR_17, drT_18, drs_19, drg_20⟩ := u
        have hP : va_P (dC, dI) vwCl ((kRoot so co sh xo mo no djo ss sq_4) ++ ((kCake kI kA co ca cv cr cg cw cV) ++ ((kDiv kI kA djo dfs dro dst dto dah dar dpa dpr dgr dFp_5 dFt_6 dFg_7 dFS_8 dQc_9 dQg_10 dQk_11 dSp_12 dST_13 dTO_14 dAH_15 dPA_16 dGR_17) ++ (kRow kI dro dra drT_18 drs_19 drg_20)))) H := hP
        have hD : va_D A ((kRoot so co sh xo mo no djo ss sq_4) ++ ((kCake kI kA co ca cv cr cg cw cV) ++ ((kDiv kI kA djo dfs dro dst dto dah dar dpa dpr dgr dFp_5 dFt_6 dFg_7 dFS_8 dQc_9 dQg_10 dQk_11 dSp_12 dST_13 dTO_14 dAH_15 dPA_16 dGR_17) ++ (kRow kI dro dra drT_18 drs_19 drg_20)))) := hD
        refine lv_iload_n hx hb dX6_calm_29 rfl (lv_at hl 1 rfl) ?_
        refine lv_if_ne (tgt := 41) hx hb dX6_calm_30 (by decide) (fun c_21 => ?_) (fun c_21 => ?_)
        · have hw := hw.1 c_21
          refine lv_aload_n hx hb dX6_calm_41 rfl (lv_at hl 0 rfl) ?_
          refine va_get (D := (dC, dI)) (ci := 6) (v := .ref djo) (C := RX6) (T := TX6) (N := 8) hx hb hts in_X6_calm_X6 hown hK hP 0 rfl rfl 6 (by decide) (hts (.fieldLink RX6 48 "CakeMarks" "divisions" "LCakeMarks$Divisions;") (List.mem_of_getElem? (i := 3) rfl)) (fun _ h9 => h9) rfl dX6_calm_42 ?_
          refine va_get (D := (dC, dI)) (ci := 1) (v := .int dQc_9) (C := RX1) (T := TX1) (N := 14) hx hb hts in_X6_calm_X1 hown hK hP 8 rfl rfl 4 (by decide) (hts (.fieldLink RX6 203 "CakeMarks$Divisions" "quietCount" "I") (List.mem_of_getElem? (i := 4) rfl)) (fun _ h9 => h9) rfl dX6_calm_45 ?_
          refine lv_if_ne (tgt := 54) hx hb dX6_calm_48 (by decide) (fun c_22 => ?_) (fun c_22 => ?_)
          · have hw := hw.1 c_22
            refine lv_iload_n hx hb dX6_calm_54 rfl (lv_at hl 1 rfl) ?_
            refine lv_iconst (v := (1 : Int32)) hx hb dX6_calm_55 (by decide) ?_
            refine lv_icmp_ne (tgt := 69) hx hb dX6_calm_56 (by decide) (fun c_23 => ?_) (fun c_23 => ?_)
            · have hw := hw.1 c_23
              refine lv_aload_n hx hb dX6_calm_69 rfl (lv_at hl 0 rfl) ?_
              refine va_get (D := (dC, dI)) (ci := 6) (v := .ref djo) (C := RX6) (T := TX6) (N := 8) hx hb hts in_X6_calm_X6 hown hK hP 0 rfl rfl 6 (by decide) (hts (.fieldLink RX6 48 "CakeMarks" "divisions" "LCakeMarks$Divisions;") (List.mem_of_getElem? (i := 3) rfl)) (fun _ h9 => h9) rfl dX6_calm_70 ?_
              refine va_get (D := (dC, dI)) (ci := 1) (v := .int dQk_11) (C := RX1) (T := TX1) (N := 14) hx hb hts in_X6_calm_X1 hown hK hP 8 rfl rfl 6 (by decide) (hts (.fieldLink RX6 209 "CakeMarks$Divisions" "quietCut" "I") (List.mem_of_getElem? (i := 6) rfl)) (fun _ h9 => h9) rfl dX6_calm_73 ?_
              exact hret 76 dQk_11 (sq_4, dFp_5, dFt_6, dFg_7, dFS_8, dQc_9, dQg_10, dQk_11, dSp_12, dST_13, dTO_14, dAH_15, dPA_16, dGR_17, drT_18, drs_19, drg_20) _ _ _ (fun h => absurd h (by decide)) hw hP hD hS dX6_calm_76
            · have hw := hw.2 c_23
              refine lv_aload_n hx hb dX6_calm_59 rfl (lv_at hl 0 rfl) ?_
              refine va_get (D := (dC, dI)) (ci := 6) (v := .ref djo) (C := RX6) (T := TX6) (N := 8) hx hb hts in_X6_calm_X6 hown hK hP 0 rfl rfl 6 (by decide) (hts (.fieldLink RX6 48 "CakeMarks" "divisions" "LCakeMarks$Divisions;") (List.mem_of_getElem? (i := 3) rfl)) (fun _ h9 => h9) rfl dX6_calm_60 ?_
              refine va_get (D := (dC, dI)) (ci := 1) (v := .int dQg_10) (C := RX1) (T := TX1) (N := 14) hx hb hts in_X6_calm_X1 hown hK hP 8 rfl rfl 5 (by decide) (hts (.fieldLink RX6 206 "CakeMarks$Divisions" "quietGuest" "I") (List.mem_of_getElem? (i := 5) rfl)) (fun _ h9 => h9) rfl dX6_calm_63 ?_
              refine lv_goto (tgt := 76) hx hb dX6_calm_66 (by decide) ?_
              exact hret 76 dQg_10 (sq_4, dFp_5, dFt_6, dFg_7, dFS_8, dQc_9, dQg_10, dQk_11, dSp_12, dST_13, dTO_14, dAH_15, dPA_16, dGR_17, drT_18, drs_19, drg_20) _ _ _ (fun h => absurd h (by decide)) hw hP hD hS dX6_calm_76
          · have hw := hw.2 c_22
            refine lv_bipush (v := (-9 : Int32)) hx hb dX6_calm_51 (by decide) ?_
            exact hret 53 (-9 : Int32) (sq_4, dFp_5, dFt_6, dFg_7, dFS_8, dQc_9, dQg_10, dQk_11, dSp_12, dST_13, dTO_14, dAH_15, dPA_16, dGR_17, drT_18, drs_19, drg_20) _ _ _ (fun h => absurd h (by decide)) hw hP hD hS dX6_calm_53
        · have hw := hw.2 c_21
          refine lv_aload_n hx hb dX6_calm_33 rfl (lv_at hl 0 rfl) ?_
          refine va_get (D := (dC, dI)) (ci := 6) (v := .ref djo) (C := RX6) (T := TX6) (N := 8) hx hb hts in_X6_calm_X6 hown hK hP 0 rfl rfl 6 (by decide) (hts (.fieldLink RX6 48 "CakeMarks" "divisions" "LCakeMarks$Divisions;") (List.mem_of_getElem? (i := 3) rfl)) (fun _ h9 => h9) rfl dX6_calm_34 ?_
          refine va_get (D := (dC, dI)) (ci := 1) (v := .int dQc_9) (C := RX1) (T := TX1) (N := 14) hx hb hts in_X6_calm_X1 hown hK hP 8 rfl rfl 4 (by decide) (hts (.fieldLink RX6 203 "CakeMarks$Divisions" "quietCount" "I") (List.mem_of_getElem? (i := 4) rfl)) (fun _ h9 => h9) rfl dX6_calm_37 ?_
          exact hret 40 dQc_9 (sq_4, dFp_5, dFt_6, dFg_7, dFS_8, dQc_9, dQg_10, dQk_11, dSp_12, dST_13, dTO_14, dAH_15, dPA_16, dGR_17, drT_18, drs_19, drg_20) _ _ _ (fun h => absurd h (by decide)) hw hP hD hS dX6_calm_40
      · have hw := hw.2 c_3
        refine lv_bipush (v := (-2 : Int32)) hx hb dX6_calm_22 (by decide) ?_
        exact hret 24 (-2 : Int32) (sq, dFp, dFt, dFg, dFS, dQc, dQg, dQk, dSp, dST, dTO, dAH, dPA, dGR, drT, drs, drg) _ _ _ (fun h => absurd h (by decide)) hw hP hD hS dX6_calm_24
    · have hw := hw.2 c_2
      refine lv_iconst (v := (-1 : Int32)) hx hb dX6_calm_9 (by decide) ?_
      exact hret 10 (-1 : Int32) (sq, dFp, dFt, dFg, dFS, dQc, dQg, dQk, dSp, dST, dTO, dAH, dPA, dGR, drT, drs, drg) _ _ _ (fun h => absurd h (by decide)) hw hP hD hS dX6_calm_10
-- CakeMarks.calls(II)I
def Wp_X6_calls (cg : Int32) (cw : Nat → Int32) (cV : Nat → Nat → Int32) (mw : Nat → Int32) (a1 : Int32) (a2 : Int32) (Z : Int32 → (Nat → Int32) → Prop) : Prop := (Wp_X6_isMove cg a1 a2 (fun r_1 => ((r_1 = (0 : Int32) → (Z (-1 : Int32) mw)) ∧ (¬ r_1 = (0 : Int32) → (Wp_X2_pass mw cg cw cV a1 a2 (fun r_4 mw_3 => (Z r_4 mw_3)))))))
theorem in_X6_calls_X6 : ∀ w ∈ u_ws RX6 TX6 8, w ∈ wsX6_calls := fun w h => List.mem_cons_of_mem _ (List.mem_append_left _ (List.mem_append_left _ (List.mem_append_right _ h)))
set_option maxHeartbeats 20000000 in
set_option maxRecDepth 100000 in
theorem c_X6_calls (l : Launch) (dC : Nat → ClassId) (dI : Nat → Nat → Nat) (kI kA kC : ClassId) (so : Nat) (co : Nat) (sh : Nat) (xo : Nat) (mo : Nat) (no : Nat) (djo : Nat) (ca : Nat) (cv : Nat) (cr : Nat → Nat) (ma : Nat) (sz : Nat) (ss : Int32) (sq : Int32) (cg : Int32) (cw : Nat → Int32) (cV : Nat → Nat → Int32) (mw : Nat → Int32) (a1 : Int32) (a2 : Int32) (Z : Int32 → (Nat → Int32) → Prop) (hw : Wp_X6_calls cg cw cV mw a1 a2 Z) : zI l yX6_calls wsX6_calls ({ frames := 4, cells := 0, slots := 0, locals := 100 }) dC dI kI kA kC sz 0 0 [.ref so, .int a1, .int a2] ((kRoot so co sh xo mo no djo ss sq) ++ ((kCake kI kA co ca cv cr cg cw cV) ++ (kMark kI mo ma mw))) (fun (r : Int32) (u : (Nat → Int32)) => Z r u) (fun (u : (Nat → Int32)) => ((kRoot so co sh xo mo no djo ss sq) ++ ((kCake kI kA co ca cv cr cg cw cV) ++ (kMark kI mo ma u)))) := by
  refine zI.of (cc := cX6_calls) (maxL := 3) (ty := .int) (by decide) rfl (Nat.le_of_ble_eq_true rfl) (Or.inl rfl) ?_
  intro p e s m args below meth c A Q C0 hret ls hl
  obtain ⟨hx, hb, hr, hml, hts, hown, hin, hP, hK, hD, hA, hS⟩ := C0
  have hown : s.vm.findClass RX6 = some m.cls := hown
  have hl : lv_has ls 3 [(0, .ref so), (1, .int a1), (2, .int a2)] := hl
  unfold Wp_X6_calls at hw
  refine lv_aload_n hx hb dX6_calls_0 rfl (lv_at hl 0 rfl) ?_
  refine lv_iload_n hx hb dX6_calls_1 rfl (lv_at hl 1 rfl) ?_
  refine lv_iload_n hx hb dX6_calls_2 rfl (lv_at hl 2 rfl) ?_
  refine zcallI (ci := 6) (q0 := 0) (As := [.int a1, .int a2]) (rest := []) (wr := (kMark kI mo ma mw)) (Wn := fun u => ((kRoot so co sh xo mo no djo ss sq) ++ ((kCake kI kA co ca cv cr cg cw cV) ++ (kMark kI mo ma mw)))) ⟨hx, hb, hml, hown, hts⟩ (c_X6_isMove l dC dI kI kA kC so co sh xo mo no djo ca cv cr _ ss sq cg cw cV a1 a2 _ hw) (cwV 2 hts gX6_calls_X6_isMove rfl rfl rfl (by decide +kernel) ⟨Nat.le_of_ble_eq_true rfl, Nat.le_of_ble_eq_true rfl⟩) hK hP hD hS hA [0, 1, 2, 3, 4, 5, 6, 7] [8, 9] [2, 3, 4, 5, 6, 7, 8, 9, 0, 1] rfl rfl (by decide) (by decide) (by decide) (fun u => rfl) (by decide) rfl rfl rfl rfl hl.1 rfl (Nat.le_of_ble_eq_true rfl) dX6_calls_3 ⟨Nat.zero_le _, Nat.zero_le _⟩ (fun r_1 u H locs hw hP hD hS => ?_)
  have hP : va_P (dC, dI) vwCl ((kRoot so co sh xo mo no djo ss sq) ++ ((kCake kI kA co ca cv cr cg cw cV) ++ (kMark kI mo ma mw))) H := hP
  have hD : va_D A ((kRoot so co sh xo mo no djo ss sq) ++ ((kCake kI kA co ca cv cr cg cw cV) ++ (kMark kI mo ma mw))) := hD
  refine lv_if_eq (tgt := 25) hx hb dX6_calls_6 (by decide) (fun c_2 => ?_) (fun c_2 => ?_)
  · have hw := hw.1 c_2
    refine lv_iconst (v := (-1 : Int32)) hx hb dX6_calls_25 (by decide) ?_
    exact hret 26 (-1 : Int32) mw _ _ _ (fun h => absurd h (by decide)) hw hP hD hS dX6_calls_26
  · have hw := hw.2 c_2
    refine lv_aload_n hx hb dX6_calls_9 rfl (lv_at hl 0 rfl) ?_
    refine va_get (D := (dC, dI)) (ci := 6) (v := .ref mo) (C := RX6) (T := TX6) (N := 8) hx hb hts in_X6_calls_X6 hown hK hP 0 rfl rfl 4 (by decide) (hts (.fieldLink RX6 34 "CakeMarks" "mark" "LCakeMarks$Mark;") (List.mem_of_getElem? (i := 1) rfl)) (fun _ h9 => h9) rfl dX6_calls_10 ?_
    refine lv_aload_n hx hb dX6_calls_13 rfl (lv_at hl 0 rfl) ?_
    refine va_get (D := (dC, dI)) (ci := 6) (v := .ref co) (C := RX6) (T := TX6) (N := 8) hx hb hts in_X6_calls_X6 hown hK hP 0 rfl rfl 0 (by decide) (hts (.fieldLink RX6 10 "CakeMarks" "cake" "LCakeMarks$Cake;") (List.mem_of_getElem? (i := 2) rfl)) (fun _ h9 => h9) rfl dX6_calls_14 ?_
    refine lv_iload_n hx hb dX6_calls_17 rfl (lv_at hl 1 rfl) ?_
    refine lv_iload_n hx hb dX6_calls_18 rfl (lv_at hl 2 rfl) ?_
    refine zcallI (ci := 2) (q0 := 0) (As := [.ref co, .int a1, .int a2]) (rest := []) (wr := (kRoot so co sh xo mo no djo ss sq)) (Wn := fun u => ((kRoot so co sh xo mo no djo ss sq) ++ ((kCake kI kA co ca cv cr cg cw cV) ++ (kMark kI mo ma u)))) ⟨hx, hb, hml, hown, hts⟩ (c_X2_pass l dC dI kI kA kC mo ma co ca cv cr _ mw cg cw cV a1 a2 _ hw) (cwV 3 hts gX6_calls_X2_pass rfl rfl rfl (by decide +kernel) ⟨Nat.le_of_ble_eq_true rfl, Nat.le_of_ble_eq_true rfl⟩) hK hP hD hS hA [8, 9, 1, 2, 3, 4, 5, 6, 7] [0] [0, 3, 4, 5, 6, 7, 8, 9, 1, 2] rfl rfl (by decide) (by decide) (by decide) (fun u => rfl) (by decide) rfl rfl rfl rfl hl.1 rfl (Nat.le_of_ble_eq_true rfl) dX6_calls_19 ⟨Nat.zero_le _, Nat.zero_le _⟩ (fun r_4 mw_3 H locs hw hP hD hS => ?_)
    have hP : va_P (dC, dI) vwCl ((kRoot so co sh xo mo no djo ss sq) ++ ((kCake kI kA co ca cv cr cg cw cV) ++ (kMark kI mo ma mw_3))) H := hP
    have hD : va_D A ((kRoot so co sh xo mo no djo ss sq) ++ ((kCake kI kA co ca cv cr cg cw cV) ++ (kMark kI mo ma mw_3))) := hD
    refine lv_goto (tgt := 26) hx hb dX6_calls_22 (by decide) ?_
    exact hret 26 r_4 mw_3 _ _ _ (fun h => absurd h (by decide)) hw hP hD hS dX6_calls_26
