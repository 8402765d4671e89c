-- CakeMarks$Mark.firstCaller(LCakeMarks$Cake;IIII)I
def K_X2_firstCaller_27 (cg : Int32) (cw : Nat → Int32) (cV : Nat → Nat → Int32) (a1 : Int32) (a2 : Int32) (a3 : Int32) (a4 : Int32) (Z : Int32 → Prop) (J3 : Int32 → Prop) (x5 : Int32) (t0 : Int32) : Prop := ((t0 = (0 : Int32) → (J3 (x5 + (1 : Int32)))) ∧ (¬ t0 = (0 : Int32) → (Wp_X0_worthWithin cw cV x5 (-1 : Int32) a3 a4 (fun r_4 => (Wp_X0_total cV x5 (fun r_5 => ((((100 : Int32) * r_4) < (a1 * r_5) → (J3 (x5 + (1 : Int32)))) ∧ (¬ ((100 : Int32) * r_4) < (a1 * r_5) → (Z x5)))))))))
def B_X2_firstCaller_3 (cg : Int32) (cw : Nat → Int32) (cV : Nat → Nat → Int32) (a1 : Int32) (a2 : Int32) (a3 : Int32) (a4 : Int32) (Z : Int32 → Prop) (J3 : Int32 → Prop) (x5 : Int32) : Prop := ((cg ≤ x5 → (Z (-1 : Int32))) ∧ (¬ cg ≤ x5 → ((¬ ((a2 >>> (x5 &&& 31)) &&& (1 : Int32)) = (1 : Int32) → (K_X2_firstCaller_27 cg cw cV a1 a2 a3 a4 Z J3 x5 (0 : Int32))) ∧ (((a2 >>> (x5 &&& 31)) &&& (1 : Int32)) = (1 : Int32) → (K_X2_firstCaller_27 cg cw cV a1 a2 a3 a4 Z J3 x5 (1 : Int32))))))
def Wp_X2_firstCaller_3 (cg : Int32) (cw : Nat → Int32) (cV : Nat → Nat → Int32) (a1 : Int32) (a2 : Int32) (a3 : Int32) (a4 : Int32) (Z : Int32 → Prop) (x5 : Int32) : Prop := ∀ (I3 : Int32 → Prop), (∀ (J3 : Int32 → Prop), (∀ (x5 : Int32), J3 x5 → I3 x5) → ∀ (x5 : Int32), B_X2_firstCaller_3 cg cw cV a1 a2 a3 a4 Z J3 x5 → I3 x5) → I3 x5
theorem F_X2_firstCaller_3 (cg : Int32) (cw : Nat → Int32) (cV : Nat → Nat → Int32) (a1 : Int32) (a2 : Int32) (a3 : Int32) (a4 : Int32) (Z : Int32 → Prop) (x5 : Int32) (h : B_X2_firstCaller_3 cg cw cV a1 a2 a3 a4 Z (Wp_X2_firstCaller_3 cg cw cV a1 a2 a3 a4 Z) x5) : Wp_X2_firstCaller_3 cg cw cV a1 a2 a3 a4 Z x5 := fun I3 h3 => h3 _ (fun x5 hx => hx I3 h3) x5 h
def Wp_X2_firstCaller (cg : Int32) (cw : Nat → Int32) (cV : Nat → Nat → Int32) (a1 : Int32) (a2 : Int32) (a3 : Int32) (a4 : Int32) (Z : Int32 → Prop) : Prop := ((Wp_X2_firstCaller_3 cg cw cV a1 a2 a3 a4 Z) (0 : Int32))
theorem in_X2_firstCaller_X0 : ∀ w ∈ u_ws RX0 TX0 3, w ∈ wsX2_firstCaller := fun w h => List.mem_cons_of_mem _ (List.mem_append_right _ h)
set_option maxHeartbeats 20000000 in
set_option maxRecDepth 100000 in
theorem c_X2_firstCaller (l : Launch) (dC : Nat → ClassId) (dI : Nat → Nat → Nat) (kI kA kC : ClassId) (co : Nat) (ca : Nat) (cv : Nat) (cr : Nat → Nat) (sz : Nat) (cg : Int32) (cw : Nat → Int32) (cV : Nat → Nat → Int32) (a1 : Int32) (a2 : Int32) (a3 : Int32) (a4 : Int32) (Z : Int32 → Prop) (hw : Wp_X2_firstCaller cg cw cV a1 a2 a3 a4 Z) : zI l yX2_firstCaller wsX2_firstCaller ({ frames := 2, cells := 0, slots := 0, locals := 46 }) dC dI kI kA kC sz 0 0 [.ref co, .int a1, .int a2, .int a3, .int a4] (kCake kI kA co ca cv cr cg cw cV) (fun (r : Int32) (u : Unit) => Z r ) (fun (u : Unit) => (kCake kI kA co ca cv cr cg cw cV)) := by
  refine zI.of (cc := cX2_firstCaller) (maxL := 7) (ty := .int) (by decide) rfl (Nat.le_of_ble_eq_true rfl) (Or.inl rfl) ?_
  intro p e s m args below meth c A Q C0 hret ls hl
  obtain ⟨hx, hb, hr, hml, hts, hown, hin, hP, hK, hD, hA, hS⟩ := C0
  have hown : s.vm.findClass RX2 = some m.cls := hown
  have hl : lv_has ls 7 [(0, .ref co), (1, .int a1), (2, .int a2), (3, .int a3), (4, .int a4)] := hl
  have k_27 : ∀ (J3 : Int32 → Prop) (hJ3 : ∀ (x5 : Int32), J3 x5 → ∀ (ls : Array Slot) (H : Heap) (locs : List Loc), lv_has ls 7 [(0, .ref co), (1, .int a1), (2, .int a2), (3, .int a3), (4, .int a4), (5, .int x5)] → va_P (dC, dI) vwCl (kCake kI kA co ca cv cr cg cw cV) H → va_D A (kCake kI kA co ca cv cr cg cw cV) → va_S A s.heap H locs → W p l e ({ frames := 2, cells := 0, slots := 0, locals := 46 }) s m args below meth c H locs 0 0 Q (F0 m 3 ls [])), ∀ (x5 : Int32) (t0 : Int32), K_X2_firstCaller_27 cg cw cV a1 a2 a3 a4 Z J3 x5 t0 → ∀ (ls : Array Slot) (H : Heap) (locs : List Loc), lv_has ls 7 [(0, .ref co), (1, .int a1), (2, .int a2), (3, .int a3), (4, .int a4), (5, .int x5)] → va_P (dC, dI) vwCl (kCake kI kA co ca cv cr cg cw cV) H → va_D A (kCake kI kA co ca cv cr cg cw cV) → va_S A s.heap H locs → W p l e ({ frames := 2, cells := 0, slots := 0, locals := 46 }) s m args below meth c H locs 0 0 Q (F0 m 27 ls [.int t0]) := by
    intro J3 hJ3 x5 t0 hw ls H locs hl hP hD hS
    unfold K_X2_firstCaller_27 at hw
    refine lv_istore (lv' := [(6, .int t0), (0, .ref co), (1, .int a1), (2, .int a2), (3, .int a3), (4, .int a4), (5, .int x5)]) hx hb dX2_firstCaller_27 hl (by decide) rfl (fun ls hl => ?_)
    refine lv_iload hx hb dX2_firstCaller_29 (lv_at hl 0 rfl) ?_
    refine lv_if_eq (tgt := 61) hx hb dX2_firstCaller_31 (by decide) (fun c_3 => ?_) (fun c_3 => ?_)
    · have hw := hw.1 c_3
      refine lv_iinc (v := (x5 + (1 : Int32))) (lv' := [(5, .int (x5 + (1 : Int32))), (6, .int t0), (0, .ref co), (1, .int a1), (2, .int a2), (3, .int a3), (4, .int a4)]) hx hb dX2_firstCaller_61 hl (k := 6) rfl (by first | rfl | decide) (by decide) rfl (fun ls hl => ?_)
      refine lv_goto (tgt := 3) hx hb dX2_firstCaller_64 (by decide) ?_
      exact hJ3 (x5 + (1 : Int32)) hw ls _ _ (lv_sub hl [2, 3, 4, 5, 6, 0] rfl) hP hD hS
    · have hw := hw.2 c_3
      refine lv_bipush (v := (100 : Int32)) hx hb dX2_firstCaller_34 (by decide) ?_
      refine lv_aload_n hx hb dX2_firstCaller_36 rfl (lv_at hl 1 rfl) ?_
      refine lv_iload hx hb dX2_firstCaller_37 (lv_at hl 6 rfl) ?_
      refine lv_iconst (v := (-1 : Int32)) hx hb dX2_firstCaller_39 (by decide) ?_
      refine lv_iload_n hx hb dX2_firstCaller_40 rfl (lv_at hl 4 rfl) ?_
      refine lv_iload hx hb dX2_firstCaller_41 (lv_at hl 5 rfl) ?_
      refine zcallI (ci := 0) (q0 := 0) (As := [.int x5, .int (-1 : Int32), .int a3, .int a4]) (rest := [.int (100 : Int32)]) (wr := ([] : va_W)) (Wn := fun u => (kCake kI kA co ca cv cr cg cw cV)) ⟨hx, hb, hml, hown, hts⟩ (c_X0_worthWithin l dC dI kI kA kC co ca cv cr _ cg cw cV x5 (-1 : Int32) a3 a4 _ hw) (cwV 4 hts gX2_firstCaller_X0_worthWithin rfl rfl rfl (by decide +kernel) ⟨Nat.le_of_ble_eq_true rfl, Nat.le_of_ble_eq_true rfl⟩) hK hP hD hS hA [0, 1, 2, 3, 4, 5, 6] [] [0, 1, 2, 3, 4, 5, 6] rfl rfl (by decide) (by decide) (by decide) (fun u => rfl) (by decide) rfl rfl rfl rfl hl.1 rfl (Nat.le_of_ble_eq_true rfl) dX2_firstCaller_43 ⟨Nat.zero_le _, Nat.zero_le _⟩ (fun r_4 u H locs hw hP hD hS => ?_)
      have hP : va_P (dC, dI) vwCl (kCake kI kA co ca cv cr cg cw cV) H := hP
      have hD : va_D A (kCake kI kA co ca cv cr cg cw cV) := hD
      refine lv_imul hx hb dX2_firstCaller_46 ?_
      refine lv_iload_n hx hb dX2_firstCaller_47 rfl (lv_at hl 2 rfl) ?_
      refine lv_aload_n hx hb dX2_firstCaller_48 rfl (lv_at hl 1 rfl) ?_
      refine lv_iload hx hb dX2_firstCaller_49 (lv_at hl 6 rfl) ?_
      refine zcallI (ci := 0) (q0 := 0) (As := [.int x5]) (rest := [.int a1, .int ((100 : Int32) * r_4)]) (wr := ([] : va_W)) (Wn := fun u => (kCake kI kA co ca cv cr cg cw cV)) ⟨hx, hb, hml, hown, hts⟩ (c_X0_total l dC dI kI kA kC co ca cv cr _ cg cw cV x5 _ hw) (cwV 1 hts gX2_firstCaller_X0_total rfl rfl rfl (by decide +kernel) ⟨Nat.le_of_ble_eq_true rfl, Nat.le_of_ble_eq_true rfl⟩) hK hP hD hS hA [0, 1, 2, 3, 4, 5, 6] [] [0, 1, 2, 3, 4, 5, 6] rfl rfl (by decide) (by decide) (by decide) (fun u => rfl) (by decide) rfl rfl rfl rfl hl.1 rfl (Nat.le_of_ble_eq_true rfl) dX2_firstCaller_51 ⟨Nat.zero_le _, Nat.zero_le _⟩ (fun r_5 u H locs hw hP hD hS => ?_)
      have hP : va_P (dC, dI) vwCl (kCake kI kA co ca cv cr cg cw cV) H := hP
      have hD : va_D A (kCake kI kA co ca cv cr cg cw cV) := hD
      refine lv_imul hx hb dX2_firstCaller_54 ?_
      refine lv_icmp_lt (tgt := 61) hx hb dX2_firstCaller_55 (by decide) (fun c_6 => ?_) (fun c_6 => ?_)
      · have hw := hw.1 c_6
        refine lv_iinc (v := (x5 + (1 : Int32))) (lv' := [(5, .int (x5 + (1 : Int32))), (6, .int t0), (0, .ref co), (1, .int a1), (2, .int a2), (3, .int a3), (4, .int a4)]) hx hb dX2_firstCaller_61 hl (k := 6) rfl (by first | rfl | decide) (by decide) rfl (fun ls hl => ?_)
        refine lv_goto (tgt := 3) hx hb dX2_firstCaller_64 (by decide) ?_
        exact hJ3 (x5 + (1 : Int32)) hw ls _ _ (lv_sub hl [2, 3, 4, 5, 6, 0] rfl) hP hD hS
      · have hw := hw.2 c_6
        refine lv_iload hx hb dX2_firstCaller_58 (lv_at hl 6 rfl) ?_
        exact hret 60 x5 () _ _ _ (fun h => absurd h (by decide)) hw hP hD hS dX2_firstCaller_60
  have key : ∀ (J3 : Int32 → Prop) (hJ3 : ∀ (x5 : Int32), J3 x5 → ∀ (ls : Array Slot) (H : Heap) (locs : List Loc), lv_has ls 7 [(0, .ref co), (1, .int a1), (2, .int a2), (3, .int a3), (4, .int a4), (5, .int x5)] → va_P (dC, dI) vwCl (kCake kI kA co ca cv cr cg cw cV) H → va_D A (kCake kI kA co ca cv cr cg cw cV) → va_S A s.heap H locs → W p l e ({ frames := 2, cells := 0, slots := 0, locals := 46 }) s m args below meth c H locs 0 0 Q (F0 m 3 ls [])), (∀ (x5 : Int32), B_X2_firstCaller_3 cg cw cV a1 a2 a3 a4 Z J3 x5 → ∀ (ls : Array Slot) (H : Heap) (locs : List Loc), lv_has ls 7 [(0, .ref co), (1, .int a1), (2, .int a2), (3, .int a3), (4, .int a4), (5, .int x5)] → va_P (dC, dI) vwCl (kCake kI kA co ca cv cr cg cw cV) H → va_D A (kCake kI kA co ca cv cr cg cw cV) → va_S A s.heap H locs → W p l e ({ frames := 2, cells := 0, slots := 0, locals := 46 }) s m args below meth c H locs 0 0 Q (F0 m 3 ls [])) := by
    intro J3 hJ3
    · intro x5 hw ls H locs hl hP hD hS
      unfold B_X2_firstCaller_3 at hw
      refine lv_iload hx hb dX2_firstCaller_3 (lv_at hl 5 rfl) ?_
      refine lv_aload_n hx hb dX2_firstCaller_5 rfl (lv_at hl 0 rfl) ?_
      refine va_get (D := (dC, dI)) (ci := 0) (v := .int cg) (C := RX0) (T := TX0) (N := 3) hx hb hts in_X2_firstCaller_X0 hown hK hP 0 rfl rfl 0 (by decide) (hts (.fieldLink RX2 32 "CakeMarks$Cake" "guests" "I") (List.mem_of_getElem? (i := 1) rfl)) (fun _ h9 => h9) rfl dX2_firstCaller_6 ?_
      refine lv_icmp_ge (tgt := 67) hx hb dX2_firstCaller_9 (by decide) (fun c_1 => ?_) (fun c_1 => ?_)
      · have hw := hw.1 c_1
        refine lv_iconst (v := (-1 : Int32)) hx hb dX2_firstCaller_67 (by decide) ?_
        exact hret 68 (-1 : Int32) () _ _ _ (fun h => absurd h (by decide)) hw hP hD hS dX2_firstCaller_68
      · have hw := hw.2 c_1
        refine lv_iload_n hx hb dX2_firstCaller_12 rfl (lv_at hl 2 rfl) ?_
        refine lv_iload hx hb dX2_firstCaller_13 (lv_at hl 5 rfl) ?_
        refine lv_ishr hx hb dX2_firstCaller_15 ?_
        refine lv_iconst (v := (1 : Int32)) hx hb dX2_firstCaller_16 (by decide) ?_
        refine lv_iand hx hb dX2_firstCaller_17 ?_
        refine lv_iconst (v := (1 : Int32)) hx hb dX2_firstCaller_18 (by decide) ?_
        refine lv_icmp_ne (tgt := 26) hx hb dX2_firstCaller_19 (by decide) (fun c_2 => ?_) (fun c_2 => ?_)
        · have hw := hw.1 c_2
          refine lv_iconst (v := (0 : Int32)) hx hb dX2_firstCaller_26 (by decide) ?_
          exact k_27 _ hJ3 x5 (0 : Int32) hw ls _ _ (lv_sub hl [0, 1, 2, 3, 4, 5] rfl) hP hD hS
        · have hw := hw.2 c_2
          refine lv_iconst (v := (1 : Int32)) hx hb dX2_firstCaller_22 (by decide) ?_
          refine lv_goto (tgt := 27) hx hb dX2_firstCaller_23 (by decide) ?_
          exact k_27 _ hJ3 x5 (1 : Int32) hw ls _ _ (lv_sub hl [0, 1, 2, 3, 4, 5] rfl) hP hD hS
  have hJ3 : ∀ (x5 : Int32), Wp_X2_firstCaller_3 cg cw cV a1 a2 a3 a4 Z x5 → ∀ (ls : Array Slot) (H : Heap) (locs : List Loc), lv_has ls 7 [(0, .ref co), (1, .int a1), (2, .int a2), (3, .int a3), (4, .int a4), (5, .int x5)] → va_P (dC, dI) vwCl (kCake kI kA co ca cv cr cg cw cV) H → va_D A (kCake kI kA co ca cv cr cg cw cV) → va_S A s.heap H locs → W p l e ({ frames := 2, cells := 0, slots := 0, locals := 46 }) s m args below meth c H locs 0 0 Q (F0 m 3 ls []) := fun x5 hv => hv (fun x5 => ∀ (ls : Array Slot) (H : Heap) (locs : List Loc), lv_has ls 7 [(0, .ref co), (1, .int a1), (2, .int a2), (3, .int a3), (4, .int a4), (5, .int x5)] → va_P (dC, dI) vwCl (kCake kI kA co ca cv cr cg cw cV) H → va_D A (kCake kI kA co ca cv cr cg cw cV) → va_S A s.heap H locs → W p l e ({ frames := 2, cells := 0, slots := 0, locals := 46 }) s m args below meth c H locs 0 0 Q (F0 m 3 ls [])) (fun J3 q3 => (key J3 q3))
  unfold Wp_X2_firstCaller at hw
  refine lv_iconst (v := (0 : Int32)) hx hb dX2_firstCaller_0 (by decide) ?_
  refine lv_istore (lv' := [(5, .int (0 : Int32)), (0, .ref co), (1, .int a1), (2, .int a2), (3, .int a3), (4, .int a4)]) hx hb dX2_firstCaller_1 hl (by decide) rfl (fun ls hl => ?_)
  exact hJ3 (0 : Int32) hw ls _ _ (lv_sub hl [1, 2, 3, 4, 5, 0] rfl) hP hD hS
-- CakeMarks$Mark.giveTo(III)V
def B_X2_giveTo_3 (a1 : Int32) (a2 : Int32) (a3 : Int32) (Z : (Nat → Int32) → Prop) (J3 : Int32 → (Nat → Int32) → Prop) (x4 : Int32) (mw : Nat → Int32) : Prop := ((a3 < x4 → (Z mw)) ∧ (¬ a3 < x4 → (vp_in x4 24 ∧ ((¬ (mw x4.toNatClampNeg) = (-1 : Int32) → (J3 (x4 + (1 : Int32)) mw)) ∧ ((mw x4.toNatClampNeg) = (-1 : Int32) → (J3 (x4 + (1 : Int32)) (upd mw x4.toNatClampNeg a1)))))))
def Wp_X2_giveTo_3 (a1 : Int32) (a2 : Int32) (a3 : Int32) (Z : (Nat → Int32) → Prop) (x4 : Int32) (mw : Nat → Int32) : Prop := ∀ (I3 : Int32 → (Nat → Int32) → Prop), (∀ (J3 : Int32 → (Nat → Int32) → Prop), (∀ (x4 : Int32) (mw : Nat → Int32), J3 x4 mw → I3 x4 mw) → ∀ (x4 : Int32) (mw : Nat → Int32), B_X2_giveTo_3 a1 a2 a3 Z J3 x4 mw → I3 x4 mw) → I3 x4 mw
theorem F_X2_giveTo_3 (a1 : Int32) (a2 : Int32) (a3 : Int32) (Z : (Nat → Int32) → Prop) (x4 : Int32) (mw : Nat → Int32) (h : B_X2_giveTo_3 a1 a2 a3 Z (Wp_X2_giveTo_3 a1 a2 a3 Z) x4 mw) : Wp_X2_giveTo_3 a1 a2 a3 Z x4 mw := fun I3 h3 => h3 _ (fun x4 mw hx => hx I3 h3) x4 mw h
def Wp_X2_giveTo (mw : Nat → Int32) (a1 : Int32) (a2 : Int32) (a3 : Int32) (Z : (Nat → Int32) → Prop) : Prop := ((Wp_X2_giveTo_3 a1 a2 a3 Z) a2 mw)
theorem in_X2_giveTo_X2 : ∀ w ∈ u_ws RX2 TX2 1, w ∈ wsX2_giveTo := fun w h => List.mem_cons_of_mem _ (List.mem_append_right _ h)
set_option maxHeartbeats 20000000 in
set_option maxRecDepth 100000 in
theorem c_X2_giveTo (l : Launch) (dC : Nat → ClassId) (dI : Nat → Nat → Nat) (kI kA kC : ClassId) (mo : Nat) (ma : Nat) (sz : Nat) (mw : Nat → Int32) (a1 : Int32) (a2 : Int32) (a3 : Int32) (Z : (Nat → Int32) → Prop) (hw : Wp_X2_giveTo mw a1 a2 a3 Z) : zV l yX2_giveTo wsX2_giveTo ({ frames := 0, cells := 0, slots := 0, locals := 0 }) dC dI kI kA kC sz 0 0 [.ref mo, .int a1, .int a2, .int a3] (kMark kI mo ma mw) (fun (u : (Nat → Int32)) => Z u) (fun (u : (Nat → Int32)) => (kMark kI mo ma u)) := by
  refine zV.of (cc := cX2_giveTo) (maxL := 5) (by decide) rfl (Nat.le_of_ble_eq_true rfl) ?_
  intro p e s m args below meth c A Q C0 hret ls hl
  obtain ⟨hx, hb, hr, hml, hts, hown, hin, hP, hK, hD, hA, hS⟩ := C0
  have hown : s.vm.findClass RX2 = some m.cls := hown
  have hl : lv_has ls 5 [(0, .ref mo), (1, .int a1), (2, .int a2), (3, .int a3)] := hl
  have key : ∀ (J3 : Int32 → (Nat → Int32) → Prop) (hJ3 : ∀ (x4 : Int32) (mw : Nat → Int32), J3 x4 mw → ∀ (ls : Array Slot) (H : Heap) (locs : List Loc), lv_has ls 5 [(0, .ref mo), (1, .int a1), (3, .int a3), (4, .int x4)] → va_P (dC, dI) vwCl (kMark kI mo ma mw) H → va_D A (kMark kI mo ma mw) → va_S A s.heap H locs → W p l e ({ frames := 0, cells := 0, slots := 0, locals := 0 }) s m args below meth c H locs 0 0 Q (F0 m 3 ls [])), (∀ (x4 : Int32) (mw : Nat → Int32), B_X2_giveTo_3 a1 a2 a3 Z J3 x4 mw → ∀ (ls : Array Slot) (H : Heap) (locs : List Loc), lv_has ls 5 [(0, .ref mo), (1, .int a1), (3, .int a3), (4, .int x4)] → va_P (dC, dI) vwCl (kMark kI mo ma mw) H → va_D A (kMark kI mo ma mw) → va_S A s.heap H locs → W p l e ({ frames := 0, cells := 0, slots := 0, locals := 0 }) s m args below meth c H locs 0 0 Q (F0 m 3 ls [])) := by
    intro J3 hJ3
    · intro x4 mw hw ls H locs hl hP hD hS
      unfold B_X2_giveTo_3 at hw
      refine lv_iload hx hb dX2_giveTo_3 (lv_at hl 3 rfl) ?_
      refine lv_iload_n hx hb dX2_giveTo_5 rfl (lv_at hl 2 rfl) ?_
      refine lv_icmp_gt (tgt := 34) hx hb dX2_giveTo_6 (by decide) (fun c_1 => ?_) (fun c_1 => ?_)
      · have hw := hw.1 c_1
        exact hret 34 mw _ _ _ hw hP hD hS dX2_giveTo_34
      · have hw := hw.2 c_1
        refine lv_aload_n hx hb dX2_giveTo_9 rfl (lv_at hl 0 rfl) ?_
        refine va_get (D := (dC, dI)) (ci := 2) (v := .ref ma) (C := RX2) (T := TX2) (N := 1) hx hb hts in_X2_giveTo_X2 hown hK hP 0 rfl rfl 0 (by decide) (hts (.fieldLink RX2 9 "CakeMarks$Mark" "owner" "[I") (List.mem_of_getElem? (i := 1) rfl)) (fun _ h9 => h9) rfl dX2_giveTo_10 ?_
        refine lv_iload hx hb dX2_giveTo_13 (lv_at hl 3 rfl) ?_
        obtain ⟨h_2, hw⟩ := hw
        refine va_iald hx hb hK hP 1 0 rfl rfl h_2 dX2_giveTo_15 ?_
        refine lv_iconst (v := (-1 : Int32)) hx hb dX2_giveTo_16 (by decide) ?_
        refine lv_icmp_ne (tgt := 28) hx hb dX2_giveTo_17 (by decide) (fun c_3 => ?_) (fun c_3 => ?_)
        · have hw := hw.1 c_3
          refine lv_iinc (v := (x4 + (1 : Int32))) (lv' := [(4, .int (x4 + (1 : Int32))), (0, .ref mo), (1, .int a1), (3, .int a3)]) hx hb dX2_giveTo_28 hl (k := 3) rfl (by first | rfl | decide) (by decide) rfl (fun ls hl => ?_)
          refine lv_goto (tgt := 3) hx hb dX2_giveTo_31 (by decide) ?_
          exact hJ3 (x4 + (1 : Int32)) mw hw ls _ _ (lv_sub hl [1, 2, 3, 0] rfl) hP hD hS
        · have hw := hw.2 c_3
          refine lv_aload_n hx hb dX2_giveTo_20 rfl (lv_at hl 0 rfl) ?_
          refine va_get (D := (dC, dI)) (ci := 2) (v := .ref ma) (C := RX2) (T := TX2) (N := 1) hx hb hts in_X2_giveTo_X2 hown hK hP 0 rfl rfl 0 (by decide) (hts (.fieldLink RX2 9 "CakeMarks$Mark" "owner" "[I") (List.mem_of_getElem? (i := 1) rfl)) (fun _ h9 => h9) rfl dX2_giveTo_21 ?_
          refine lv_iload hx hb dX2_giveTo_24 (lv_at hl 3 rfl) ?_
          refine lv_iload_n hx hb dX2_giveTo_26 rfl (lv_at hl 1 rfl) ?_
          refine va_iast hx hb hK hP hD hS 1 0 rfl rfl h_2 dX2_giveTo_27 (fun H locs hP hD hS => ?_)
          have hP : va_P (dC, dI) vwCl (kMark kI mo ma (upd mw x4.toNatClampNeg a1)) H := hP
          have hD : va_D A (kMark kI mo ma (upd mw x4.toNatClampNeg a1)) := hD
          refine lv_iinc (v := (x4 + (1 : Int32))) (lv' := [(4, .int (x4 + (1 : Int32))), (0, .ref mo), (1, .int a1), (3, .int a3)]) hx hb dX2_giveTo_28 hl (k := 3) rfl (by first | rfl | decide) (by decide) rfl (fun ls hl => ?_)
          refine lv_goto (tgt := 3) hx hb dX2_giveTo_31 (by decide) ?_
          exact hJ3 (x4 + (1 : Int32)) (upd mw x4.toNatClampNeg a1) hw ls _ _ (lv_sub hl [1, 2, 3, 0] rfl) hP hD hS
  have hJ3 : ∀ (x4 : Int32) (mw : Nat → Int32), Wp_X2_giveTo_3 a1 a2 a3 Z x4 mw → ∀ (ls : Array Slot) (H : Heap) (locs : List Loc), lv_has ls 5 [(0, .ref mo), (1, .int a1), (3, .int a3), (4, .int x4)] → va_P (dC, dI) vwCl (kMark kI mo ma mw) H → va_D A (kMark kI mo ma mw) → va_S A s.heap H locs → W p l e ({ frames := 0, cells := 0, slots := 0, locals := 0 }) s m args below meth c H locs 0 0 Q (F0 m 3 ls []) := fun x4 mw hv => hv (fun x4 mw => ∀ (ls : Array Slot) (H : Heap) (locs : List Loc), lv_has ls 5 [(0, .ref mo), (1, .int a1), (3, .int a3), (4, .int x4)] → va_P (dC, dI) vwCl (kMark kI mo ma mw) H → va_D A (kMark kI mo ma mw) → va_S A s.heap H locs → W p l e ({ frames := 0, cells := 0, slots := 0, locals := 0 }) s m args below meth c H locs 0 0 Q (F0 m 3 ls [])) (fun J3 q3 => (key J3 q3))
  unfold Wp_X2_giveTo at hw
  refine lv_iload_n hx hb dX2_giveTo_0 rfl (lv_at hl 2 rfl) ?_
  refine lv_istore (lv' := [(4, .int a2), (0, .ref mo), (1, .int a1), (2, .int a2), (3, .int a3)]) hx hb dX2_giveTo_1 hl (by decide) rfl (fun ls hl => ?_)
  exact hJ3 a2 mw hw ls _ _ (lv_sub hl [1, 2, 4, 0] rfl) hP hD hS
-- CakeMarks$Mark.pass(LCakeMarks$Cake;II)I
def B_X2_pass_27 (cg : Int32) (cw : Nat → Int32) (cV : Nat → Nat → Int32) (a2 : Int32) (a3 : Int32) (Z : Int32 → (Nat → Int32) → Prop) (J27 : Int32 → Int32 → Int32 → Int32 → (Nat → Int32) → Prop) (x4 : Int32) (x5 : Int32) (x6 : Int32) (x7 : Int32) (mw : Nat → Int32) : Prop := (((24 : Int32) ≤ x7 → (Z x6 mw)) ∧ (¬ (24 : Int32) ≤ x7 → ((x4 = (0 : Int32) → (Z x6 mw)) ∧ (¬ x4 = (0 : Int32) → (vp_in x7 24 ∧ (((mw x7.toNatClampNeg) = (-1 : Int32) → (Wp_X2_firstCaller cg cw cV a2 x4 x5 x7 (fun r_5 => ((r_5 = (-1 : Int32) → (J27 x4 x5 x6 (x7 + (1 : Int32)) mw)) ∧ (¬ r_5 = (-1 : Int32) → (Wp_X2_giveTo mw r_5 x5 x7 (fun mw_7 => (J27 (x4 &&& (((1 : Int32) <<< (r_5 &&& 31)) ^^^ (-1 : Int32))) (x7 + (1 : Int32)) (x6 + (1 : Int32)) (x7 + (1 : Int32)) mw_7)))))))) ∧ (¬ (mw x7.toNatClampNeg) = (-1 : Int32) → (J27 x4 x5 x6 (x7 + (1 : Int32)) mw))))))))
def Wp_X2_pass_27 (cg : Int32) (cw : Nat → Int32) (cV : Nat → Nat → Int32) (a2 : Int32) (a3 : Int32) (Z : Int32 → (Nat → Int32) → Prop) (x4 : Int32) (x5 : Int32) (x6 : Int32) (x7 : Int32) (mw : Nat → Int32) : Prop := ∀ (I27 : Int32 → Int32 → Int32 → Int32 → (Nat → Int32) → Prop), (∀ (J27 : Int32 → Int32 → Int32 → Int32 → (Nat → Int32) → Prop), (∀ (x4 : Int32) (x5 : Int32) (x6 : Int32) (x7 : Int32) (mw : Nat → Int32), J27 x4 x5 x6 x7 mw → I27 x4 x5 x6 x7 mw) → ∀ (x4 : Int32) (x5 : Int32) (x6 : Int32) (x7 : Int32) (mw : Nat → Int32), B_X2_pass_27 cg cw cV a2 a3 Z J27 x4 x5 x6 x7 mw → I27 x4 x5 x6 x7 mw) → I27 x4 x5 x6 x7 mw
theorem F_X2_pass_27 (cg : Int32) (cw : Nat → Int32) (cV : Nat → Nat → Int32) (a2 : Int32) (a3 : Int32) (Z : Int32 → (Nat → Int32) → Prop) (x4 : Int32) (x5 : Int32) (x6 : Int32) (x7 : Int32) (mw : Nat → Int32) (h : B_X2_pass_27 cg cw cV a2 a3 Z (Wp_X2_pass_27 cg cw cV a2 a3 Z) x4 x5 x6 x7 mw) : Wp_X2_pass_27 cg cw cV a2 a3 Z x4 x5 x6 x7 mw := fun I27 h27 => h27 _ (fun x4 x5 x6 x7 mw hx => hx I27 h27) x4 x5 x6 x7 mw h
def Wp_X2_pass (mw : Nat → Int32) (cg : Int32) (cw : Nat → Int32) (cV : Nat → Nat → Int32) (a2 : Int32) (a3 : Int32) (Z : Int32 → (Nat → Int32) → Prop) : Prop := ((Wp_X2_pass_27 cg cw cV a2 a3 Z) a3 (0 : Int32) (0 : Int32) (0 : Int32) (va_cpy cw mw 0 0 24))
theorem in_X2_pass_X0 : ∀ w ∈ u_ws RX0 TX0 3, w ∈ wsX2_pass := fun w h => List.mem_cons_of_mem _ (List.mem_append_left _ (List.mem_append_right _ h))
theorem in_X2_pass_X2 : ∀ w ∈ u_ws RX2 TX2 1, w ∈ wsX2_pass := fun w h => List.mem_cons_of_mem _ (List.mem_append_right _ h)
set_option maxHeartbeats 20000000 in
set_option maxRecDepth 100000 in
theorem c_X2_pass (l : Launch) (dC : Nat → ClassId) (dI : Nat → Nat → Nat) (kI kA kC : ClassId) (mo : Nat) (ma : Nat) (co : Nat) (ca : Nat) (cv : Nat) (cr : Nat → Nat) (sz : Nat) (mw : Nat → Int32) (cg : Int32) (cw : Nat → Int32) (cV : Nat → Nat → Int32) (a2 : Int32) (a3 : Int32) (Z : Int32 → (Nat → Int32) → Prop) (hw : Wp_X2_pass mw cg cw cV a2 a3 Z) : zI l yX2_pass wsX2_pass ({ frames := 3, cells := 0, slots := 0, locals := 72 }) dC dI kI kA kC sz 0 0 [.ref mo, .ref co, .int a2, .int a3] ((kMark kI mo ma mw) ++ (kCake kI kA co ca cv cr cg cw cV)) (fun (r : Int32) (u : (Nat → Int32)) => Z r u) (fun (u : (Nat → Int32)) => ((kMark kI mo ma u) ++ (kCake kI kA co ca cv cr cg cw cV))) := by
  refine zI.of (cc := cX2_pass) (maxL := 9) (ty := .int) (by decide) rfl (Nat.le_of_ble_eq_true rfl) (Or.inl rfl) ?_
  intro p e s m args below meth c A Q C0 hret ls hl
  obtain ⟨hx, hb, hr, hml, hts, hown, hin, hP, hK, hD, hA, hS⟩ := C0
  have hown : s.vm.findClass RX2 = some m.cls := hown
  have hl : lv_has ls 9 [(0, .ref mo), (1, .ref co), (2, .int a2), (3, .int a3)] := hl
  have key : ∀ (J27 : Int32 → Int32 → Int32 → Int32 → (Nat → Int32) → Prop) (hJ27 : ∀ (x4 : Int32) (x5 : Int32) (x6 : Int32) (x7 : Int32) (mw : Nat → Int32), J27 x4 x5 x6 x7 mw → ∀ (ls : Array Slot) (H : Heap) (locs : List Loc), lv_has ls 9 [(0, .ref mo), (1, .ref co), (2, .int a2), (4, .int x4), (5, .int x5), (6, .int x6), (7, .int x7)] → va_P (dC, dI) vwCl ((kMark kI mo ma mw) ++ (kCake kI kA co ca cv cr cg cw cV)) H → va_D A ((kMark kI mo ma mw) ++ (kCake kI kA co ca cv cr cg cw cV)) → va_S A s.heap H locs → W p l e ({ frames := 3, cells := 0, slots := 0, locals := 72 }) s m args below meth c H locs 0 0 Q (F0 m 27 ls [])), (∀ (x4 : Int32) (x5 : Int32) (x6 : Int32) (x7 : Int32) (mw : Nat → Int32), B_X2_pass_27 cg cw cV a2 a3 Z J27 x4 x5 x6 x7 mw → ∀ (ls : Array Slot) (H : Heap) (locs : List Loc), lv_has ls 9 [(0, .ref mo), (1, .ref co), (2, .int a2), (4, .int x4), (5, .int x5), (6, .int x6), (7, .int x7)] → va_P (dC, dI) vwCl ((kMark kI mo ma mw) ++ (kCake kI kA co ca cv cr cg cw cV)) H → va_D A ((kMark kI mo ma mw) ++ (kCake kI kA co ca cv cr cg cw cV)) → va_S A s.heap H locs → W p l e ({ frames := 3, cells := 0, slots := 0, locals := 72 }) s m args below meth c H locs 0 0 Q (F0 m 27 ls [])) := by
    intro J27 hJ27
    · intro x4 x5 x6 x7 mw hw ls H locs hl hP hD hS
      unfold B_X2_pass_27 at hw
      refine lv_iload hx hb dX2_pass_27 (lv_at hl 6 rfl) ?_
      refine lv_bipush (v := (24 : Int32)) hx hb dX2_pass_29 (by decide) ?_
      refine lv_icmp_ge (tgt := 108) hx hb dX2_pass_31 (by decide) (fun c_1 => ?_) (fun c_1 => ?_)
      · have hw := hw.1 c_1
        refine lv_iload hx hb dX2_pass_108 (lv_at hl 5 rfl) ?_
        exact hret 110 x6 mw _ _ _ (fun h => absurd h (by decide)) hw hP hD hS dX2_pass_110
      · have hw := hw.2 c_1
        refine lv_iload hx hb dX2_pass_34 (lv_at hl 3 rfl) ?_
        refine lv_if_eq (tgt := 108) hx hb dX2_pass_36 (by decide) (fun c_2 => ?_) (fun c_2 => ?_)
        · have hw := hw.1 c_2
          refine lv_iload hx hb dX2_pass_108 (lv_at hl 5 rfl) ?_
          exact hret 110 x6 mw _ _ _ (fun h => absurd h (by decide)) hw hP hD hS dX2_pass_110
        · have hw := hw.2 c_2
          refine lv_aload_n hx hb dX2_pass_39 rfl (lv_at hl 0 rfl) ?_
          refine va_get (D := (dC, dI)) (ci := 2) (v := .ref ma) (C := RX2) (T := TX2) (N := 1) hx hb hts in_X2_pass_X2 hown hK hP 0 rfl rfl 0 (by decide) (hts (.fieldLink RX2 9 "CakeMarks$Mark" "owner" "[I") (List.mem_of_getElem? (i := 2) rfl)) (fun _ h9 => h9) rfl dX2_pass_40 ?_
          refine lv_iload hx hb dX2_pass_43 (lv_at hl 6 rfl) ?_
          obtain ⟨h_3, hw⟩ := hw
          refine va_iald hx hb hK hP 1 0 rfl rfl h_3 dX2_pass_45 ?_
          refine lv_iconst (v := (-1 : Int32)) hx hb dX2_pass_46 (by decide) ?_
          refine lv_icmp_eq (tgt := 53) hx hb dX2_pass_47 (by decide) (fun c_4 => ?_) (fun c_4 => ?_)
          · have hw := hw.1 c_4
            refine lv_aload_n hx hb dX2_pass_53 rfl (lv_at hl 1 rfl) ?_
            refine lv_iload_n hx hb dX2_pass_54 rfl (lv_at hl 2 rfl) ?_
            refine lv_iload hx hb dX2_pass_55 (lv_at hl 3 rfl) ?_
            refine lv_iload hx hb dX2_pass_57 (lv_at hl 4 rfl) ?_
            refine lv_iload hx hb dX2_pass_59 (lv_at hl 6 rfl) ?_
            refine zcallS (As := [.ref co, .int a2, .int x4, .int x5, .int x7]) (rest := []) (wr := (kMark kI mo ma mw)) (Wn := fun u => ((kMark kI mo ma mw) ++ (kCake kI kA co ca cv cr cg cw cV))) ⟨hx, hb, hml, hown, hts⟩ (c_X2_firstCaller l dC dI kI kA kC co ca cv cr _ cg cw cV a2 x4 x5 x7 _ hw) (va_cwS 5 hts gX2_pass_X2_firstCaller rfl rfl rfl (by decide +kernel) ⟨Nat.le_of_ble_eq_true rfl, Nat.le_of_ble_eq_true rfl⟩) hK hP hD hS hA [2, 3, 4, 5, 6, 7, 8] [0, 1] [0, 1, 2, 3, 4, 5, 6, 7, 8] rfl rfl (by decide) (by decide) (by decide) (fun u => rfl) (by decide) rfl hl.1 rfl (Nat.le_of_ble_eq_true rfl) dX2_pass_61 ⟨Nat.zero_le _, Nat.zero_le _⟩ (fun r_5 u H locs hw hP hD hS => ?_)
            have hP : va_P (dC, dI) vwCl ((kMark kI mo ma mw) ++ (kCake kI kA co ca cv cr cg cw cV)) H := hP
            have hD : va_D A ((kMark kI mo ma mw) ++ (kCake kI kA co ca cv cr cg cw cV)) := hD
            refine lv_istore (lv' := [(8, .int r_5), (0, .ref mo), (1, .ref co), (2, .int a2), (4, .int x4), (5, .int x5), (6, .int x6), (7, .int x7)]) hx hb dX2_pass_64 hl (by decide) rfl (fun ls hl => ?_)
            refine lv_iload hx hb dX2_pass_66 (lv_at hl 0 rfl) ?_
            refine lv_iconst (v := (-1 : Int32)) hx hb dX2_pass_68 (by decide) ?_
            refine lv_icmp_eq (tgt := 102) hx hb dX2_pass_69 (by decide) (fun c_6 => ?_) (fun c_6 => ?_)
            · have hw := hw.1 c_6
              refine lv_iinc (v := (x7 + (1 : Int32))) (lv' := [(7, .int (x7 + (1 : Int32))), (8, .int r_5), (0, .ref mo), (1, .ref co), (2, .int a2), (4, .int x4), (5, .int x5), (6, .int x6)]) hx hb dX2_pass_102 hl (k := 7) rfl (by first | rfl | decide) (by decide) rfl (fun ls hl => ?_)
              refine lv_goto (tgt := 27) hx hb dX2_pass_105 (by decide) ?_
              exact hJ27 x4 x5 x6 (x7 + (1 : Int32)) mw hw ls _ _ (lv_sub hl [2, 3, 4, 5, 6, 7, 0] rfl) hP hD hS
            · have hw := hw.2 c_6
              refine lv_aload_n hx hb dX2_pass_72 rfl (lv_at hl 1 rfl) ?_
              refine lv_iload hx hb dX2_pass_73 (lv_at hl 0 rfl) ?_
              refine lv_iload hx hb dX2_pass_75 (lv_at hl 5 rfl) ?_
              refine lv_iload hx hb dX2_pass_77 (lv_at hl 7 rfl) ?_
              refine zcallV (ci := 2) (q0 := 0) (As := [.int r_5, .int x5, .int x7]) (rest := []) (wr := (kCake kI kA co ca cv cr cg cw cV)) (Wn := fun u => ((kMark kI mo ma u) ++ (kCake kI kA co ca cv cr cg cw cV))) ⟨hx, hb, hml, hown, hts⟩ (c_X2_giveTo l dC dI kI kA kC mo ma _ mw r_5 x5 x7 _ hw) (cwV 3 hts gX2_pass_X2_giveTo rfl rfl rfl (by decide +kernel) ⟨Nat.le_of_ble_eq_true rfl, Nat.le_of_ble_eq_true rfl⟩) hK hP hD hS hA [0, 1] [2, 3, 4, 5, 6, 7, 8] [7, 8, 0, 1, 2, 3, 4, 5, 6] rfl rfl (by decide) (by decide) (by decide) (fun u => rfl) (by decide) rfl rfl rfl rfl hl.1 rfl (Nat.le_of_ble_eq_true rfl) dX2_pass_79 ⟨Nat.zero_le _, Nat.zero_le _⟩ (fun mw_7 H locs hw hP hD hS => ?_)
              have hP : va_P (dC, dI) vwCl ((kMark kI mo ma mw_7) ++ (kCake kI kA co ca cv cr cg cw cV)) H := hP
              have hD : va_D A ((kMark kI mo ma mw_7) ++ (kCake kI kA co ca cv cr cg cw cV)) := hD
              refine lv_iload hx hb dX2_pass_82 (lv_at hl 4 rfl) ?_
              refine lv_iconst (v := (1 : Int32)) hx hb dX2_pass_84 (by decide) ?_
              refine lv_iload hx hb dX2_pass_85 (lv_at hl 0 rfl) ?_
              refine lv_ishl hx hb dX2_pass_87 ?_
              refine lv_iconst (v := (-1 : Int32)) hx hb dX2_pass_88 (by decide) ?_
              refine lv_ixor hx hb dX2_pass_89 ?_
              refine lv_iand hx hb dX2_pass_90 ?_
              refine lv_istore (lv' := [(4, .int (x4 &&& (((1 : Int32) <<< (r_5 &&& 31)) ^^^ (-1 : Int32)))), (8, .int r_5), (0, .ref mo), (1, .ref co), (2, .int a2), (5, .int x5), (6, .int x6), (7, .int x7)]) hx hb dX2_pass_91 hl (by decide) rfl (fun ls hl => ?_)
              refine lv_iload hx hb dX2_pass_93 (lv_at hl 7 rfl) ?_
              refine lv_iconst (v := (1 : Int32)) hx hb dX2_pass_95 (by decide) ?_
              refine lv_iadd hx hb dX2_pass_96 ?_
              refine lv_istore (lv' := [(5, .int (x7 + (1 : Int32))), (4, .int (x4 &&& (((1 : Int32) <<< (r_5 &&& 31)) ^^^ (-1 : Int32)))), (8, .int r_5), (0, .ref mo), (1, .ref co), (2, .int a2), (6, .int x6), (7, .int x7)]) hx hb dX2_pass_97 hl (by decide) rfl (fun ls hl => ?_)
              refine lv_iinc (v := (x6 + (1 : Int32))) (lv' := [(6, .int (x6 + (1 : Int32))), (5, .int (x7 + (1 : Int32))), (4, .int (x4 &&& (((1 : Int32) <<< (r_5 &&& 31)) ^^^ (-1 : Int32)))), (8, .int r_5), (0, .ref mo), (1, .ref co), (2, .int a2), (7, .int x7)]) hx hb dX2_pass_99 hl (k := 6) rfl (by first | rfl | decide) (by decide) rfl (fun ls hl => ?_)
              refine lv_iinc (v := (x7 + (1 : Int32))) (lv' := [(7, .int (x7 + (1 : Int32))), (6, .int (x6 + (1 : Int32))), (5, .int (x7 + (1 : Int32))), (4, .int (x4 &&& (((1 : Int32) <<< (r_5 &&& 31)) ^^^ (-1 : Int32)))), (8, .int r_5), (0, .ref mo), (1, .ref co), (2, .int a2)]) hx hb dX2_pass_102 hl (k := 7) rfl (by first | rfl | decide) (by decide) rfl (fun ls hl => ?_)
              refine lv_goto (tgt := 27) hx hb dX2_pass_105 (by decide) ?_
              exact hJ27 (x4 &&& (((1 : Int32) <<< (r_5 &&& 31)) ^^^ (-1 : Int32))) (x7 + (1 : Int32)) (x6 + (1 : Int32)) (x7 + (1 : Int32)) mw_7 hw ls _ _ (lv_sub hl [5, 6, 7, 3, 2, 1, 0] rfl) hP hD hS
          · have hw := hw.2 c_4
            refine lv_goto (tgt := 102) hx hb dX2_pass_50 (by decide) ?_
            refine lv_iinc (v := (x7 + (1 : Int32))) (lv' := [(7, .int (x7 + (1 : Int32))), (0, .ref mo), (1, .ref co), (2, .int a2), (4, .int x4), (5, .int x5), (6, .int x6)]) hx hb dX2_pass_102 hl (k := 6) rfl (by first | rfl | decide) (by decide) rfl (fun ls hl => ?_)
            refine lv_goto (tgt := 27) hx hb dX2_pass_105 (by decide) ?_
            exact hJ27 x4 x5 x6 (x7 + (1 : Int32)) mw hw ls _ _ (lv_sub hl [1, 2, 3, 4, 5, 6, 0] rfl) hP hD hS
  have hJ27 : ∀ (x4 : Int32) (x5 : Int32) (x6 : Int32) (x7 : Int32) (mw : Nat → Int32), Wp_X2_pass_27 cg cw cV a2 a3 Z x4 x5 x6 x7 mw → ∀ (ls : Array Slot) (H : Heap) (locs : List Loc), lv_has ls 9 [(0, .ref mo), (1, .ref co), (2, .int a2), (4, .int x4), (5, .int x5), (6, .int x6), (7, .int x7)] → va_P (dC, dI) vwCl ((kMark kI mo ma mw) ++ (kCake kI kA co ca cv cr cg cw cV)) H → va_D A ((kMark kI mo ma mw) ++ (kCake kI kA co ca cv cr cg cw cV)) → va_S A s.heap H locs → W p l e ({ frames := 3, cells := 0, slots := 0, locals := 72 }) s m args below meth c H locs 0 0 Q (F0 m 27 ls []) := fun x4 x5 x6 x7 mw hv => hv (fun x4 x5 x6 x7 mw => ∀ (ls : Array Slot) (H : Heap) (locs : List Loc), lv_has ls 9 [(0, .ref mo), (1, .ref co), (2, .int a2), (4, .int x4), (5, .int x5), (6, .int x6), (7, .int x7)] → va_P (dC, dI) vwCl ((kMark kI mo ma mw) ++ (kCake kI kA co ca cv cr cg cw cV)) H → va_D A ((kMark kI mo ma mw) ++ (kCake kI kA co ca cv cr cg cw cV)) → va_S A s.heap H locs → W p l e ({ frames := 3, cells := 0, slots := 0, locals := 72 }) s m args below meth c H locs 0 0 Q (F0 m 27 ls [])) (fun J27 q27 => (key J27 q27))
  unfold Wp_X2_pass at hw
  refine lv_aload_n hx hb dX2_pass_0 rfl (lv_at hl 1 rfl) ?_
  refine va_get (D := (dC, dI)) (ci := 0) (v := .ref ca) (C := RX0) (T := TX0) (N := 3) hx hb hts in_X2_pass_X0 hown hK hP 2 rfl rfl 1 (by decide) (hts (.fieldLink RX2 15 "CakeMarks$Cake" "owner" "[I") (List.mem_of_getElem? (i := 1) rfl)) (fun _ h9 => h9) rfl dX2_pass_1 ?_
  refine lv_iconst (v := (0 : Int32)) hx hb dX2_pass_4 (by decide) ?_
  refine lv_aload_n hx hb dX2_pass_5 rfl (lv_at hl 0 rfl) ?_
  refine va_get (D := (dC, dI)) (ci := 2) (v := .ref ma) (C := RX2) (T := TX2) (N := 1) hx hb hts in_X2_pass_X2 hown hK hP 0 rfl rfl 0 (by decide) (hts (.fieldLink RX2 9 "CakeMarks$Mark" "owner" "[I") (List.mem_of_getElem? (i := 2) rfl)) (fun _ h9 => h9) rfl dX2_pass_6 ?_
  refine lv_iconst (v := (0 : Int32)) hx hb dX2_pass_9 (by decide) ?_
  refine lv_bipush (v := (24 : Int32)) hx hb dX2_pass_10 (by decide) ?_
  refine zcopy hx hb (hml.trans hl.1.symm) hown (hts (.methodLink RX2 18 arraycopyName) (List.mem_of_getElem? (i := 3) rfl)) (hts (.native arraycopyName) (List.mem_of_getElem? (i := 4) rfl)) (hts (.static arraycopyName) (List.mem_of_getElem? (i := 5) rfl)) (hts (.initialized "java/lang/System") (List.mem_of_getElem? (i := 6) rfl)) hK hP hD hS 3 1 rfl rfl (Nat.le_of_ble_eq_true rfl) (Nat.le_of_ble_eq_true rfl) dX2_pass_12 (fun H locs hP hD hS => ?_)
  have hP : va_P (dC, dI) vwCl ((kMark kI mo ma (va_cpy cw mw 0 0 24)) ++ (kCake kI kA co ca cv cr cg cw cV)) H := hP
  have hD : va_D A ((kMark kI mo ma (va_cpy cw mw 0 0 24)) ++ (kCake kI kA co ca cv cr cg cw cV)) := hD
  refine lv_iload_n hx hb dX2_pass_15 rfl (lv_at hl 3 rfl) ?_
  refine lv_istore (lv' := [(4, .int a3), (0, .ref mo), (1, .ref co), (2, .int a2), (3, .int a3)]) hx hb dX2_pass_16 hl (by decide) rfl (fun ls hl => ?_)
  refine lv_iconst (v := (0 : Int32)) hx hb dX2_pass_18 (by decide) ?_
  refine lv_istore (lv' := [(5, .int (0 : Int32)), (4, .int a3), (0, .ref mo), (1, .ref co), (2, .int a2), (3, .int a3)]) hx hb dX2_pass_19 hl (by decide) rfl (fun ls hl => ?_)
  refine lv_iconst (v := (0 : Int32)) hx hb dX2_pass_21 (by decide) ?_
  refine lv_istore (lv' := [(6, .int (0 : Int32)), (5, .int (0 : Int32)), (4, .int a3), (0, .ref mo), (1, .ref co), (2, .int a2), (3, .int a3)]) hx hb dX2_pass_22 hl (by decide) rfl (fun ls hl => ?_)
  refine lv_iconst (v := (0 : Int32)) hx hb dX2_pass_24 (by decide) ?_
  refine lv_istore (lv' := [(7, .int (0 : Int32)), (6, .int (0 : Int32)), (5, .int (0 : Int32)), (4, .int a3), (0, .ref mo), (1, .ref co), (2, .int a2), (3, .int a3)]) hx hb dX2_pass_25 hl (by decide) rfl (fun ls hl => ?_)
  exact hJ27 a3 (0 : Int32) (0 : Int32) (0 : Int32) (va_cpy cw mw 0 0 24) hw ls _ _ (lv_sub hl [4, 5, 6, 3, 2, 1, 0] rfl) hP hD hS
