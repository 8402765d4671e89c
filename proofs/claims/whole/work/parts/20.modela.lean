-- CakeMarksModel.in(III)Z
def Wp_X7_in (a0 : Int32) (a1 : Int32) (a2 : Int32) (Z : Int32 → Prop) : Prop := ((a0 < a1 → (Z (0 : Int32))) ∧ (¬ a0 < a1 → ((a2 < a0 → (Z (0 : Int32))) ∧ (¬ a2 < a0 → (Z (1 : Int32))))))
set_option maxHeartbeats 20000000 in
set_option maxRecDepth 100000 in
theorem c_X7_in (l : Launch) (dC : Nat → ClassId) (dI : Nat → Nat → Nat) (kI kA kC : ClassId) (sz : Nat) (a0 : Int32) (a1 : Int32) (a2 : Int32) (Z : Int32 → Prop) (hw : Wp_X7_in a0 a1 a2 Z) : zI l yX7_in wsX7_in ({ frames := 0, cells := 0, slots := 0, locals := 0 }) dC dI kI kA kC sz 0 0 [.int a0, .int a1, .int a2] ([] : va_W) (fun (r : Int32) (u : Unit) => Z r ) (fun (u : Unit) => ([] : va_W)) := by
  refine zI.of (cc := cX7_in) (maxL := 3) (ty := .boolean) (by decide) rfl (Nat.le_of_ble_eq_true rfl) (Or.inr rfl) ?_
  intro p e s m args below meth c A Q C0 hret ls hl
  obtain ⟨hx, hb, hr, hml, hts, hown, hin, hP, hK, hD, hA, hS⟩ := C0
  have hown : s.vm.findClass RX7 = some m.cls := hown
  have hl : lv_has ls 3 [(0, .int a0), (1, .int a1), (2, .int a2)] := hl
  unfold Wp_X7_in at hw
  refine lv_iload_n hx hb dX7_in_0 rfl (lv_at hl 0 rfl) ?_
  refine lv_iload_n hx hb dX7_in_1 rfl (lv_at hl 1 rfl) ?_
  refine lv_icmp_lt (tgt := 14) hx hb dX7_in_2 (by decide) (fun c_1 => ?_) (fun c_1 => ?_)
  · have hw := hw.1 c_1
    refine lv_iconst (v := (0 : Int32)) hx hb dX7_in_14 (by decide) ?_
    exact hret 15 (0 : Int32) () _ _ _ (fun _ => rfl) hw hP hD hS dX7_in_15
  · have hw := hw.2 c_1
    refine lv_iload_n hx hb dX7_in_5 rfl (lv_at hl 0 rfl) ?_
    refine lv_iload_n hx hb dX7_in_6 rfl (lv_at hl 2 rfl) ?_
    refine lv_icmp_gt (tgt := 14) hx hb dX7_in_7 (by decide) (fun c_2 => ?_) (fun c_2 => ?_)
    · have hw := hw.1 c_2
      refine lv_iconst (v := (0 : Int32)) hx hb dX7_in_14 (by decide) ?_
      exact hret 15 (0 : Int32) () _ _ _ (fun _ => rfl) hw hP hD hS dX7_in_15
    · have hw := hw.2 c_2
      refine lv_iconst (v := (1 : Int32)) hx hb dX7_in_10 (by decide) ?_
      refine lv_goto (tgt := 15) hx hb dX7_in_11 (by decide) ?_
      exact hret 15 (1 : Int32) () _ _ _ (fun _ => rfl) hw hP hD hS dX7_in_15
-- CakeMarksModel.copies(II)V
def B_X7_copies_2 (a1 : Int32) (a2 : Int32) (Z : (Nat → Int32) → Prop) (J2 : Int32 → (Nat → Int32) → Prop) (x3 : Int32) (uR : Nat → Int32) : Prop := (((121 : Int32) ≤ x3 → (Z uR)) ∧ (¬ (121 : Int32) ≤ x3 → (vp_in (a1 + x3) 847 ∧ (vp_in (a2 + x3) 847 ∧ (J2 (x3 + (1 : Int32)) (upd uR (a2 + x3).toNatClampNeg (uR (a1 + x3).toNatClampNeg)))))))
def Wp_X7_copies_2 (a1 : Int32) (a2 : Int32) (Z : (Nat → Int32) → Prop) (x3 : Int32) (uR : Nat → Int32) : Prop := ∀ (I2 : Int32 → (Nat → Int32) → Prop), (∀ (J2 : Int32 → (Nat → Int32) → Prop), (∀ (x3 : Int32) (uR : Nat → Int32), J2 x3 uR → I2 x3 uR) → ∀ (x3 : Int32) (uR : Nat → Int32), B_X7_copies_2 a1 a2 Z J2 x3 uR → I2 x3 uR) → I2 x3 uR
theorem F_X7_copies_2 (a1 : Int32) (a2 : Int32) (Z : (Nat → Int32) → Prop) (x3 : Int32) (uR : Nat → Int32) (h : B_X7_copies_2 a1 a2 Z (Wp_X7_copies_2 a1 a2 Z) x3 uR) : Wp_X7_copies_2 a1 a2 Z x3 uR := fun I2 h2 => h2 _ (fun x3 uR hx => hx I2 h2) x3 uR h
def Wp_X7_copies (uR : Nat → Int32) (a1 : Int32) (a2 : Int32) (Z : (Nat → Int32) → Prop) : Prop := ((Wp_X7_copies_2 a1 a2 Z) (0 : Int32) uR)
theorem in_X7_copies_X7 : ∀ w ∈ u_ws RX7 TX7 16, w ∈ wsX7_copies := fun w h => List.mem_cons_of_mem _ (List.mem_append_right _ h)
set_option maxHeartbeats 20000000 in
set_option maxRecDepth 100000 in
theorem c_X7_copies (l : Launch) (dC : Nat → ClassId) (dI : Nat → Nat → Nat) (kI kA kC : ClassId) (uo : Nat) (ur : Nat) (ux : Nat) (ut : Nat) (un : Nat) (uf : Nat) (uw : Nat) (ub : Nat) (sz : Nat) (uR : Nat → Int32) (uk : Int32) (uX : Nat → Int32) (ul : Int32) (uT : Nat → Int32) (ui : Int32) (uN : Nat → Int32) (uF : Nat → Int32) (uW : Nat → Int32) (uB : Nat → Int32) (ubw : Int32) (ubu : Int32) (ubd : Int32) (ucm : Int32) (ucw : Int32) (ucf : Int32) (a1 : Int32) (a2 : Int32) (Z : (Nat → Int32) → Prop) (hw : Wp_X7_copies uR a1 a2 Z) : zV l yX7_copies wsX7_copies ({ frames := 0, cells := 0, slots := 0, locals := 0 }) dC dI kI kA kC sz 0 0 [.ref uo, .int a1, .int a2] (kModel kI uo ur ux ut un uf uw ub uR uk uX ul uT ui uN uF uW uB ubw ubu ubd ucm ucw ucf) (fun (u : (Nat → Int32)) => Z u) (fun (u : (Nat → Int32)) => (kModel kI uo ur ux ut un uf uw ub u uk uX ul uT ui uN uF uW uB ubw ubu ubd ucm ucw ucf)) := by
  refine zV.of (cc := cX7_copies) (maxL := 4) (by decide) rfl (Nat.le_of_ble_eq_true rfl) ?_
  intro p e s m args below meth c A Q C0 hret ls hl
  obtain ⟨hx, hb, hr, hml, hts, hown, hin, hP, hK, hD, hA, hS⟩ := C0
  have hown : s.vm.findClass RX7 = some m.cls := hown
  have hl : lv_has ls 4 [(0, .ref uo), (1, .int a1), (2, .int a2)] := hl
  have key : ∀ (J2 : Int32 → (Nat → Int32) → Prop) (hJ2 : ∀ (x3 : Int32) (uR : Nat → Int32), J2 x3 uR → ∀ (ls : Array Slot) (H : Heap) (locs : List Loc), lv_has ls 4 [(0, .ref uo), (1, .int a1), (2, .int a2), (3, .int x3)] → va_P (dC, dI) vwCl (kModel kI uo ur ux ut un uf uw ub uR uk uX ul uT ui uN uF uW uB ubw ubu ubd ucm ucw ucf) H → va_D A (kModel kI uo ur ux ut un uf uw ub uR uk uX ul uT ui uN uF uW uB ubw ubu ubd ucm ucw ucf) → va_S A s.heap H locs → W p l e ({ frames := 0, cells := 0, slots := 0, locals := 0 }) s m args below meth c H locs 0 0 Q (F0 m 2 ls [])), (∀ (x3 : Int32) (uR : Nat → Int32), B_X7_copies_2 a1 a2 Z J2 x3 uR → ∀ (ls : Array Slot) (H : Heap) (locs : List Loc), lv_has ls 4 [(0, .ref uo), (1, .int a1), (2, .int a2), (3, .int x3)] → va_P (dC, dI) vwCl (kModel kI uo ur ux ut un uf uw ub uR uk uX ul uT ui uN uF uW uB ubw ubu ubd ucm ucw ucf) H → va_D A (kModel kI uo ur ux ut un uf uw ub uR uk uX ul uT ui uN uF uW uB ubw ubu ubd ucm ucw ucf) → va_S A s.heap H locs → W p l e ({ frames := 0, cells := 0, slots := 0, locals := 0 }) s m args below meth c H locs 0 0 Q (F0 m 2 ls [])) := by
    intro J2 hJ2
    · intro x3 uR hw ls H locs hl hP hD hS
      unfold B_X7_copies_2 at hw
      refine lv_iload_n hx hb dX7_copies_2 rfl (lv_at hl 3 rfl) ?_
      refine lv_bipush (v := (121 : Int32)) hx hb dX7_copies_3 (by decide) ?_
      refine lv_icmp_ge (tgt := 30) hx hb dX7_copies_5 (by decide) (fun c_1 => ?_) (fun c_1 => ?_)
      · have hw := hw.1 c_1
        exact hret 30 uR _ _ _ hw hP hD hS dX7_copies_30
      · have hw := hw.2 c_1
        refine lv_aload_n hx hb dX7_copies_8 rfl (lv_at hl 0 rfl) ?_
        refine va_get (D := (dC, dI)) (ci := 7) (v := .ref ur) (C := RX7) (T := TX7) (N := 16) hx hb hts in_X7_copies_X7 hown hK hP 0 rfl rfl 0 (by decide) (hts (.fieldLink RX7 7 "CakeMarksModel" "row" "[I") (List.mem_of_getElem? (i := 1) rfl)) (fun _ h9 => h9) rfl dX7_copies_9 ?_
        refine lv_iload_n hx hb dX7_copies_12 rfl (lv_at hl 2 rfl) ?_
        refine lv_iload_n hx hb dX7_copies_13 rfl (lv_at hl 3 rfl) ?_
        refine lv_iadd hx hb dX7_copies_14 ?_
        refine lv_aload_n hx hb dX7_copies_15 rfl (lv_at hl 0 rfl) ?_
        refine va_get (D := (dC, dI)) (ci := 7) (v := .ref ur) (C := RX7) (T := TX7) (N := 16) hx hb hts in_X7_copies_X7 hown hK hP 0 rfl rfl 0 (by decide) (hts (.fieldLink RX7 7 "CakeMarksModel" "row" "[I") (List.mem_of_getElem? (i := 1) rfl)) (fun _ h9 => h9) rfl dX7_copies_16 ?_
        refine lv_iload_n hx hb dX7_copies_19 rfl (lv_at hl 1 rfl) ?_
        refine lv_iload_n hx hb dX7_copies_20 rfl (lv_at hl 3 rfl) ?_
        refine lv_iadd hx hb dX7_copies_21 ?_
        obtain ⟨h_2, hw⟩ := hw
        refine va_iald hx hb hK hP 1 0 rfl rfl h_2 dX7_copies_22 ?_
        obtain ⟨h_3, hw⟩ := hw
        refine va_iast hx hb hK hP hD hS 1 0 rfl rfl h_3 dX7_copies_23 (fun H locs hP hD hS => ?_)
        have hP : va_P (dC, dI) vwCl (kModel kI uo ur ux ut un uf uw ub (upd uR (a2 + x3).toNatClampNeg (uR (a1 + x3).toNatClampNeg)) uk uX ul uT ui uN uF uW uB ubw ubu ubd ucm ucw ucf) H := hP
        have hD : va_D A (kModel kI uo ur ux ut un uf uw ub (upd uR (a2 + x3).toNatClampNeg (uR (a1 + x3).toNatClampNeg)) uk uX ul uT ui uN uF uW uB ubw ubu ubd ucm ucw ucf) := hD
        refine lv_iinc (v := (x3 + (1 : Int32))) (lv' := [(3, .int (x3 + (1 : Int32))), (0, .ref uo), (1, .int a1), (2, .int a2)]) hx hb dX7_copies_24 hl (k := 3) rfl (by first | rfl | decide) (by decide) rfl (fun ls hl => ?_)
        refine lv_goto (tgt := 2) hx hb dX7_copies_27 (by decide) ?_
        exact hJ2 (x3 + (1 : Int32)) (upd uR (a2 + x3).toNatClampNeg (uR (a1 + x3).toNatClampNeg)) hw ls _ _ (lv_sub hl [1, 2, 3, 0] rfl) hP hD hS
  have hJ2 : ∀ (x3 : Int32) (uR : Nat → Int32), Wp_X7_copies_2 a1 a2 Z x3 uR → ∀ (ls : Array Slot) (H : Heap) (locs : List Loc), lv_has ls 4 [(0, .ref uo), (1, .int a1), (2, .int a2), (3, .int x3)] → va_P (dC, dI) vwCl (kModel kI uo ur ux ut un uf uw ub uR uk uX ul uT ui uN uF uW uB ubw ubu ubd ucm ucw ucf) H → va_D A (kModel kI uo ur ux ut un uf uw ub uR uk uX ul uT ui uN uF uW uB ubw ubu ubd ucm ucw ucf) → va_S A s.heap H locs → W p l e ({ frames := 0, cells := 0, slots := 0, locals := 0 }) s m args below meth c H locs 0 0 Q (F0 m 2 ls []) := fun x3 uR hv => hv (fun x3 uR => ∀ (ls : Array Slot) (H : Heap) (locs : List Loc), lv_has ls 4 [(0, .ref uo), (1, .int a1), (2, .int a2), (3, .int x3)] → va_P (dC, dI) vwCl (kModel kI uo ur ux ut un uf uw ub uR uk uX ul uT ui uN uF uW uB ubw ubu ubd ucm ucw ucf) H → va_D A (kModel kI uo ur ux ut un uf uw ub uR uk uX ul uT ui uN uF uW uB ubw ubu ubd ucm ucw ucf) → va_S A s.heap H locs → W p l e ({ frames := 0, cells := 0, slots := 0, locals := 0 }) s m args below meth c H locs 0 0 Q (F0 m 2 ls [])) (fun J2 q2 => (key J2 q2))
  unfold Wp_X7_copies at hw
  refine lv_iconst (v := (0 : Int32)) hx hb dX7_copies_0 (by decide) ?_
  refine lv_istore_n (lv' := [(3, .int (0 : Int32)), (0, .ref uo), (1, .int a1), (2, .int a2)]) hx hb dX7_copies_1 rfl hl (by decide) rfl (fun ls hl => ?_)
  exact hJ2 (0 : Int32) uR hw ls _ _ (lv_sub hl [1, 2, 3, 0] rfl) hP hD hS
-- CakeMarksModel.records()V
def K_X7_records_45 (Z : (Nat → Int32) → Int32 → Prop) (J10 : Int32 → (Nat → Int32) → Int32 → Prop) (uR : Nat → Int32) (uk : Int32) : Prop := (Wp_X7_copies uR (0 : Int32) ((121 : Int32) * (uk + (1 : Int32))) (fun uR_4 => (Z uR_4 (uk + (1 : Int32)))))
def B_X7_records_10 (Z : (Nat → Int32) → Int32 → Prop) (J10 : Int32 → (Nat → Int32) → Int32 → Prop) (x1 : Int32) (uR : Nat → Int32) (uk : Int32) : Prop := (((5 : Int32) ≤ x1 → (K_X7_records_45 Z J10 uR (uk - (1 : Int32)))) ∧ (¬ (5 : Int32) ≤ x1 → (Wp_X7_copies uR ((121 : Int32) * (x1 + (1 : Int32))) ((121 : Int32) * x1) (fun uR_3 => (J10 (x1 + (1 : Int32)) uR_3 uk)))))
def Wp_X7_records_10 (Z : (Nat → Int32) → Int32 → Prop) (x1 : Int32) (uR : Nat → Int32) (uk : Int32) : Prop := ∀ (I10 : Int32 → (Nat → Int32) → Int32 → Prop), (∀ (J10 : Int32 → (Nat → Int32) → Int32 → Prop), (∀ (x1 : Int32) (uR : Nat → Int32) (uk : Int32), J10 x1 uR uk → I10 x1 uR uk) → ∀ (x1 : Int32) (uR : Nat → Int32) (uk : Int32), B_X7_records_10 Z J10 x1 uR uk → I10 x1 uR uk) → I10 x1 uR uk
theorem F_X7_records_10 (Z : (Nat → Int32) → Int32 → Prop) (x1 : Int32) (uR : Nat → Int32) (uk : Int32) (h : B_X7_records_10 Z (Wp_X7_records_10 Z) x1 uR uk) : Wp_X7_records_10 Z x1 uR uk := fun I10 h10 => h10 _ (fun x1 uR uk hx => hx I10 h10) x1 uR uk h
def Wp_X7_records (uR : Nat → Int32) (uk : Int32) (Z : (Nat → Int32) → Int32 → Prop) : Prop := ((¬ uk = (5 : Int32) → (K_X7_records_45 Z (Wp_X7_records_10 Z) uR uk)) ∧ (uk = (5 : Int32) → ((Wp_X7_records_10 Z) (1 : Int32) uR uk)))
theorem in_X7_records_X7 : ∀ w ∈ u_ws RX7 TX7 16, w ∈ wsX7_records := fun w h => List.mem_cons_of_mem _ (List.mem_append_right _ h)
set_option maxHeartbeats 20000000 in
set_option maxRecDepth 100000 in
theorem c_X7_records (l : Launch) (dC : Nat → ClassId) (dI : Nat → Nat → Nat) (kI kA kC : ClassId) (uo : Nat) (ur : Nat) (ux : Nat) (ut : Nat) (un : Nat) (uf : Nat) (uw : Nat) (ub : Nat) (sz : Nat) (uR : Nat → Int32) (uk : Int32) (uX : Nat → Int32) (ul : Int32) (uT : Nat → Int32) (ui : Int32) (uN : Nat → Int32) (uF : Nat → Int32) (uW : Nat → Int32) (uB : Nat → Int32) (ubw : Int32) (ubu : Int32) (ubd : Int32) (ucm : Int32) (ucw : Int32) (ucf : Int32) (Z : (Nat → Int32) → Int32 → Prop) (hw : Wp_X7_records uR uk Z) : zV l yX7_records wsX7_records ({ frames := 1, cells := 0, slots := 0, locals := 23 }) dC dI kI kA kC sz 0 0 [.ref uo] (kModel kI uo ur ux ut un uf uw ub uR uk uX ul uT ui uN uF uW uB ubw ubu ubd ucm ucw ucf) (fun (u : (Nat → Int32) × Int32) => Z u.1 u.2) (fun (u : (Nat → Int32) × Int32) => (kModel kI uo ur ux ut un uf uw ub u.1 u.2 uX ul uT ui uN uF uW uB ubw ubu ubd ucm ucw ucf)) := by
  refine zV.of (cc := cX7_records) (maxL := 2) (by decide) rfl (Nat.le_of_ble_eq_true rfl) ?_
  intro p e s m args below meth c A Q C0 hret ls hl
  obtain ⟨hx, hb, hr, hml, hts, hown, hin, hP, hK, hD, hA, hS⟩ := C0
  have hown : s.vm.findClass RX7 = some m.cls := hown
  have hl : lv_has ls 2 [(0, .ref uo)] := hl
  have k_45 : ∀ (J10 : Int32 → (Nat → Int32) → Int32 → Prop) (hJ10 : ∀ (x1 : Int32) (uR : Nat → Int32) (uk : Int32), J10 x1 uR uk → ∀ (ls : Array Slot) (H : Heap) (locs : List Loc), lv_has ls 2 [(0, .ref uo), (1, .int x1)] → va_P (dC, dI) vwCl (kModel kI uo ur ux ut un uf uw ub uR uk uX ul uT ui uN uF uW uB ubw ubu ubd ucm ucw ucf) H → va_D A (kModel kI uo ur ux ut un uf uw ub uR uk uX ul uT ui uN uF uW uB ubw ubu ubd ucm ucw ucf) → va_S A s.heap H locs → W p l e ({ frames := 1, cells := 0, slots := 0, locals := 23 }) s m args below meth c H locs 0 0 Q (F0 m 10 ls [])), ∀ (uR : Nat → Int32) (uk : Int32), K_X7_records_45 Z J10 uR uk → ∀ (ls : Array Slot) (H : Heap) (locs : List Loc), lv_has ls 2 [(0, .ref uo)] → va_P (dC, dI) vwCl (kModel kI uo ur ux ut un uf uw ub uR uk uX ul uT ui uN uF uW uB ubw ubu ubd ucm ucw ucf) H → va_D A (kModel kI uo ur ux ut un uf uw ub uR uk uX ul uT ui uN uF uW uB ubw ubu ubd ucm ucw ucf) → va_S A s.heap H locs → W p l e ({ frames := 1, cells := 0, slots := 0, locals := 23 }) s m args below meth c H locs 0 0 Q (F0 m 45 ls []) := by
    intro J10 hJ10 uR uk hw ls H locs hl hP hD hS
    unfold K_X7_records_45 at hw
    refine lv_aload_n hx hb dX7_records_45 rfl (lv_at hl 0 rfl) ?_
    refine lv_dup hx hb dX7_records_46 rfl ?_
    refine va_get (D := (dC, dI)) (ci := 7) (v := .int uk) (C := RX7) (T := TX7) (N := 16) hx hb hts in_X7_records_X7 hown hK hP 0 rfl rfl 1 (by decide) (hts (.fieldLink RX7 31 "CakeMarksModel" "kept" "I") (List.mem_of_getElem? (i := 1) rfl)) (fun _ h9 => h9) rfl dX7_records_47 ?_
    refine lv_iconst (v := (1 : Int32)) hx hb dX7_records_50 (by decide) ?_
    refine lv_iadd hx hb dX7_records_51 ?_
    refine va_put (D := (dC, dI)) (ci := 7) (v := .int (uk + (1 : Int32))) (ty := .int) (C := RX7) (T := TX7) (N := 16) hx hb hts in_X7_records_X7 tyX7 tyX7_ok nmX7 hown hK hP hD hS 0 rfl rfl 1 (by decide) (hts (.fieldLink RX7 31 "CakeMarksModel" "kept" "I") (List.mem_of_getElem? (i := 1) rfl)) (fun _ h9 => h9) rfl (by decide +kernel) rfl rfl (Nat.le_of_ble_eq_true rfl) dX7_records_52 (fun H locs hP hD hS => ?_)
    have hP : va_P (dC, dI) vwCl (kModel kI uo ur ux ut un uf uw ub uR (uk + (1 : Int32)) uX ul uT ui uN uF uW uB ubw ubu ubd ucm ucw ucf) H := hP
    have hD : va_D A (kModel kI uo ur ux ut un uf uw ub uR (uk + (1 : Int32)) uX ul uT ui uN uF uW uB ubw ubu ubd ucm ucw ucf) := hD
    refine lv_aload_n hx hb dX7_records_55 rfl (lv_at hl 0 rfl) ?_
    refine lv_iconst (v := (0 : Int32)) hx hb dX7_records_56 (by decide) ?_
    refine lv_bipush (v := (121 : Int32)) hx hb dX7_records_57 (by decide) ?_
    refine lv_aload_n hx hb dX7_records_59 rfl (lv_at hl 0 rfl) ?_
    refine va_get (D := (dC, dI)) (ci := 7) (v := .int (uk + (1 : Int32))) (C := RX7) (T := TX7) (N := 16) hx hb hts in_X7_records_X7 hown hK hP 0 rfl rfl 1 (by decide) (hts (.fieldLink RX7 31 "CakeMarksModel" "kept" "I") (List.mem_of_getElem? (i := 1) rfl)) (fun _ h9 => h9) rfl dX7_records_60 ?_
    refine lv_imul hx hb dX7_records_63 ?_
    refine zcallV (ci := 7) (q0 := 0) (As := [.int (0 : Int32), .int ((121 : Int32) * (uk + (1 : Int32)))]) (rest := []) (wr := ([] : va_W)) (Wn := fun u => (kModel kI uo ur ux ut un uf uw ub u (uk + (1 : Int32)) uX ul uT ui uN uF uW uB ubw ubu ubd ucm ucw ucf)) ⟨hx, hb, hml, hown, hts⟩ (c_X7_copies l dC dI kI kA kC uo ur ux ut un uf uw ub _ uR (uk + (1 : Int32)) uX ul uT ui uN uF uW uB ubw ubu ubd ucm ucw ucf (0 : Int32) ((121 : Int32) * (uk + (1 : Int32))) _ hw) (cwV 2 hts gX7_records_X7_copies rfl rfl rfl (by decide +kernel) ⟨Nat.le_of_ble_eq_true rfl, Nat.le_of_ble_eq_true rfl⟩) hK hP hD hS hA [0, 1, 2, 3, 4, 5, 6, 7] [] [0, 1, 2, 3, 4, 5, 6, 7] rfl rfl (by decide) (by decide) (by decide) (fun u => rfl) (by decide) rfl rfl rfl rfl hl.1 rfl (Nat.le_of_ble_eq_true rfl) dX7_records_64 ⟨Nat.zero_le _, Nat.zero_le _⟩ (fun uR_4 H locs hw hP hD hS => ?_)
    have hP : va_P (dC, dI) vwCl (kModel kI uo ur ux ut un uf uw ub uR_4 (uk + (1 : Int32)) uX ul uT ui uN uF uW uB ubw ubu ubd ucm ucw ucf) H := hP
    have hD : va_D A (kModel kI uo ur ux ut un uf uw ub uR_4 (uk + (1 : Int32)) uX ul uT ui uN uF uW uB ubw ubu ubd ucm ucw ucf) := hD
    exact hret 67 (uR_4, (uk + (1 : Int32))) _ _ _ hw hP hD hS dX7_records_67
  have key : ∀ (J10 : Int32 → (Nat → Int32) → Int32 → Prop) (hJ10 : ∀ (x1 : Int32) (uR : Nat → Int32) (uk : Int32), J10 x1 uR uk → ∀ (ls : Array Slot) (H : Heap) (locs : List Loc), lv_has ls 2 [(0, .ref uo), (1, .int x1)] → va_P (dC, dI) vwCl (kModel kI uo ur ux ut un uf uw ub uR uk uX ul uT ui uN uF uW uB ubw ubu ubd ucm ucw ucf) H → va_D A (kModel kI uo ur ux ut un uf uw ub uR uk uX ul uT ui uN uF uW uB ubw ubu ubd ucm ucw ucf) → va_S A s.heap H locs → W p l e ({ frames := 1, cells := 0, slots := 0, locals := 23 }) s m args below meth c H locs 0 0 Q (F0 m 10 ls [])), (∀ (x1 : Int32) (uR : Nat → Int32) (uk : Int32), B_X7_records_10 Z J10 x1 uR uk → ∀ (ls : Array Slot) (H : Heap) (locs : List Loc), lv_has ls 2 [(0, .ref uo), (1, .int x1)] → va_P (dC, dI) vwCl (kModel kI uo ur ux ut un uf uw ub uR uk uX ul uT ui uN uF uW uB ubw ubu ubd ucm ucw ucf) H → va_D A (kModel kI uo ur ux ut un uf uw ub uR uk uX ul uT ui uN uF uW uB ubw ubu ubd ucm ucw ucf) → va_S A s.heap H locs → W p l e ({ frames := 1, cells := 0, slots := 0, locals := 23 }) s m args below meth c H locs 0 0 Q (F0 m 10 ls [])) := by
    intro J10 hJ10
    · intro x1 uR uk hw ls H locs hl hP hD hS
      unfold B_X7_records_10 at hw
      refine lv_iload_n hx hb dX7_records_10 rfl (lv_at hl 1 rfl) ?_
      refine lv_iconst (v := (5 : Int32)) hx hb dX7_records_11 (by decide) ?_
      refine lv_icmp_ge (tgt := 35) hx hb dX7_records_12 (by decide) (fun c_2 => ?_) (fun c_2 => ?_)
      · have hw := hw.1 c_2
        refine lv_aload_n hx hb dX7_records_35 rfl (lv_at hl 0 rfl) ?_
        refine lv_dup hx hb dX7_records_36 rfl ?_
        refine va_get (D := (dC, dI)) (ci := 7) (v := .int uk) (C := RX7) (T := TX7) (N := 16) hx hb hts in_X7_records_X7 hown hK hP 0 rfl rfl 1 (by decide) (hts (.fieldLink RX7 31 "CakeMarksModel" "kept" "I") (List.mem_of_getElem? (i := 1) rfl)) (fun _ h9 => h9) rfl dX7_records_37 ?_
        refine lv_iconst (v := (1 : Int32)) hx hb dX7_records_40 (by decide) ?_
        refine lv_isub hx hb dX7_records_41 ?_
        refine va_put (D := (dC, dI)) (ci := 7) (v := .int (uk - (1 : Int32))) (ty := .int) (C := RX7) (T := TX7) (N := 16) hx hb hts in_X7_records_X7 tyX7 tyX7_ok nmX7 hown hK hP hD hS 0 rfl rfl 1 (by decide) (hts (.fieldLink RX7 31 "CakeMarksModel" "kept" "I") (List.mem_of_getElem? (i := 1) rfl)) (fun _ h9 => h9) rfl (by decide +kernel) rfl rfl (Nat.le_of_ble_eq_true rfl) dX7_records_42 (fun H locs hP hD hS => ?_)
        have hP : va_P (dC, dI) vwCl (kModel kI uo ur ux ut un uf uw ub uR (uk - (1 : Int32)) uX ul uT ui uN uF uW uB ubw ubu ubd ucm ucw ucf) H := hP
        have hD : va_D A (kModel kI uo ur ux ut un uf uw ub uR (uk - (1 : Int32)) uX ul uT ui uN uF uW uB ubw ubu ubd ucm ucw ucf) := hD
        exact k_45 _ hJ10 uR (uk - (1 : Int32)) hw ls _ _ (lv_sub hl [0] rfl) hP hD hS
      · have hw := hw.2 c_2
        refine lv_aload_n hx hb dX7_records_15 rfl (lv_at hl 0 rfl) ?_
        refine lv_bipush (v := (121 : Int32)) hx hb dX7_records_16 (by decide) ?_
        refine lv_iload_n hx hb dX7_records_18 rfl (lv_at hl 1 rfl) ?_
        refine lv_iconst (v := (1 : Int32)) hx hb dX7_records_19 (by decide) ?_
        refine lv_iadd hx hb dX7_records_20 ?_
        refine lv_imul hx hb dX7_records_21 ?_
        refine lv_bipush (v := (121 : Int32)) hx hb dX7_records_22 (by decide) ?_
        refine lv_iload_n hx hb dX7_records_24 rfl (lv_at hl 1 rfl) ?_
        refine lv_imul hx hb dX7_records_25 ?_
        refine zcallV (ci := 7) (q0 := 0) (As := [.int ((121 : Int32) * (x1 + (1 : Int32))), .int ((121 : Int32) * x1)]) (rest := []) (wr := ([] : va_W)) (Wn := fun u => (kModel kI uo ur ux ut un uf uw ub u uk uX ul uT ui uN uF uW uB ubw ubu ubd ucm ucw ucf)) ⟨hx, hb, hml, hown, hts⟩ (c_X7_copies l dC dI kI kA kC uo ur ux ut un uf uw ub _ uR uk uX ul uT ui uN uF uW uB ubw ubu ubd ucm ucw ucf ((121 : Int32) * (x1 + (1 : Int32))) ((121 : Int32) * x1) _ hw) (cwV 2 hts gX7_records_X7_copies rfl rfl rfl (by decide +kernel) ⟨Nat.le_of_ble_eq_true rfl, Nat.le_of_ble_eq_true rfl⟩) hK hP hD hS hA [0, 1, 2, 3, 4, 5, 6, 7] [] [0, 1, 2, 3, 4, 5, 6, 7] rfl rfl (by decide) (by decide) (by decide) (fun u => rfl) (by decide) rfl rfl rfl rfl hl.1 rfl (Nat.le_of_ble_eq_true rfl) dX7_records_26 ⟨Nat.zero_le _, Nat.zero_le _⟩ (fun uR_3 H locs hw hP hD hS => ?_)
        have hP : va_P (dC, dI) vwCl (kModel kI uo ur ux ut un uf uw ub uR_3 uk uX ul uT ui uN uF uW uB ubw ubu ubd ucm ucw ucf) H := hP
        have hD : va_D A (kModel kI uo ur ux ut un uf uw ub uR_3 uk uX ul uT ui uN uF uW uB ubw ubu ubd ucm ucw ucf) := hD
        refine lv_iinc (v := (x1 + (1 : Int32))) (lv' := [(1, .int (x1 + (1 : Int32))), (0, .ref uo)]) hx hb dX7_records_29 hl (k := 1) rfl (by first | rfl | decide) (by decide) rfl (fun ls hl => ?_)
        refine lv_goto (tgt := 10) hx hb dX7_records_32 (by decide) ?_
        exact hJ10 (x1 + (1 : Int32)) uR_3 uk hw ls _ _ (lv_sub hl [1, 0] rfl) hP hD hS
  have hJ10 : ∀ (x1 : Int32) (uR : Nat → Int32) (uk : Int32), Wp_X7_records_10 Z x1 uR uk → ∀ (ls : Array Slot) (H : Heap) (locs : List Loc), lv_has ls 2 [(0, .ref uo), (1, .int x1)] → va_P (dC, dI) vwCl (kModel kI uo ur ux ut un uf uw ub uR uk uX ul uT ui uN uF uW uB ubw ubu ubd ucm ucw ucf) H → va_D A (kModel kI uo ur ux ut un uf uw ub uR uk uX ul uT ui uN uF uW uB ubw ubu ubd ucm ucw ucf) → va_S A s.heap H locs → W p l e ({ frames := 1, cells := 0, slots := 0, locals := 23 }) s m args below meth c H locs 0 0 Q (F0 m 10 ls []) := fun x1 uR uk hv => hv (fun x1 uR uk => ∀ (ls : Array Slot) (H : Heap) (locs : List Loc), lv_has ls 2 [(0, .ref uo), (1, .int x1)] → va_P (dC, dI) vwCl (kModel kI uo ur ux ut un uf uw ub uR uk uX ul uT ui uN uF uW uB ubw ubu ubd ucm ucw ucf) H → va_D A (kModel kI uo ur ux ut un uf uw ub uR uk uX ul uT ui uN uF uW uB ubw ubu ubd ucm ucw ucf) → va_S A s.heap H locs → W p l e ({ frames := 1, cells := 0, slots := 0, locals := 23 }) s m args below meth c H locs 0 0 Q (F0 m 10 ls [])) (fun J10 q10 => (key J10 q10))
  unfold Wp_X7_records at hw
  refine lv_aload_n hx hb dX7_records_0 rfl (lv_at hl 0 rfl) ?_
  refine va_get (D := (dC, dI)) (ci := 7) (v := .int uk) (C := RX7) (T := TX7) (N := 16) hx hb hts in_X7_records_X7 hown hK hP 0 rfl rfl 1 (by decide) (hts (.fieldLink RX7 31 "CakeMarksModel" "kept" "I") (List.mem_of_getElem? (i := 1) rfl)) (fun _ h9 => h9) rfl dX7_records_1 ?_
  refine lv_iconst (v := (5 : Int32)) hx hb dX7_records_4 (by decide) ?_
  refine lv_icmp_ne (tgt := 45) hx hb dX7_records_5 (by decide) (fun c_1 => ?_) (fun c_1 => ?_)
  · have hw := hw.1 c_1
    exact k_45 _ hJ10 uR uk hw ls _ _ (lv_sub hl [0] rfl) hP hD hS
  · have hw := hw.2 c_1
    refine lv_iconst (v := (1 : Int32)) hx hb dX7_records_8 (by decide) ?_
    refine lv_istore_n (lv' := [(1, .int (1 : Int32)), (0, .ref uo)]) hx hb dX7_records_9 rfl hl (by decide) rfl (fun ls hl => ?_)
    exact hJ10 (1 : Int32) uR uk hw ls _ _ (lv_sub hl [1, 0] rfl) hP hD hS
-- CakeMarksModel.isGuest(I)Z
def Wp_X7_isGuest (uR : Nat → Int32) (a1 : Int32) (Z : Int32 → Prop) : Prop := (vp_in (0 : Int32) 847 ∧ (Wp_X7_in a1 (0 : Int32) ((uR (0 : Int32).toNatClampNeg) - (1 : Int32)) (fun r_2 => (narrow .boolean (.int r_2) = .int r_2 ∧ (Z r_2)))))
theorem in_X7_isGuest_X7 : ∀ w ∈ u_ws RX7 TX7 16, w ∈ wsX7_isGuest := fun w h => List.mem_cons_of_mem _ (List.mem_append_right _ h)
set_option maxHeartbeats 20000000 in
set_option maxRecDepth 100000 in
theorem c_X7_isGuest (l : Launch) (dC : Nat → ClassId) (dI : Nat → Nat → Nat) (kI kA kC : ClassId) (uo : Nat) (ur : Nat) (ux : Nat) (ut : Nat) (un : Nat) (uf : Nat) (uw : Nat) (ub : Nat) (sz : Nat) (uR : Nat → Int32) (uk : Int32) (uX : Nat → Int32) (ul : Int32) (uT : Nat → Int32) (ui : Int32) (uN : Nat → Int32) (uF : Nat → Int32) (uW : Nat → Int32) (uB : Nat → Int32) (ubw : Int32) (ubu : Int32) (ubd : Int32) (ucm : Int32) (ucw : Int32) (ucf : Int32) (a1 : Int32) (Z : Int32 → Prop) (hw : Wp_X7_isGuest uR a1 Z) : zI l yX7_isGuest wsX7_isGuest ({ frames := 1, cells := 0, slots := 0, locals := 22 }) dC dI kI kA kC sz 0 0 [.ref uo, .int a1] (kModel kI uo ur ux ut un uf uw ub uR uk uX ul uT ui uN uF uW uB ubw ubu ubd ucm ucw ucf) (fun (r : Int32) (u : Unit) => Z r ) (fun (u : Unit) => (kModel kI uo ur ux ut un uf uw ub uR uk uX ul uT ui uN uF uW uB ubw ubu ubd ucm ucw ucf)) := by
  refine zI.of (cc := cX7_isGuest) (maxL := 2) (ty := .boolean) (by decide) rfl (Nat.le_of_ble_eq_true rfl) (Or.inr rfl) ?_
  intro p e s m args below meth c A Q C0 hret ls hl
  obtain ⟨hx, hb, hr, hml, hts, hown, hin, hP, hK, hD, hA, hS⟩ := C0
  have hown : s.vm.findClass RX7 = some m.cls := hown
  have hl : lv_has ls 2 [(0, .ref uo), (1, .int a1)] := hl
  unfold Wp_X7_isGuest at hw
  refine lv_iload_n hx hb dX7_isGuest_0 rfl (lv_at hl 1 rfl) ?_
  refine lv_iconst (v := (0 : Int32)) hx hb dX7_isGuest_1 (by decide) ?_
  refine lv_aload_n hx hb dX7_isGuest_2 rfl (lv_at hl 0 rfl) ?_
  refine va_get (D := (dC, dI)) (ci := 7) (v := .ref ur) (C := RX7) (T := TX7) (N := 16) hx hb hts in_X7_isGuest_X7 hown hK hP 0 rfl rfl 0 (by decide) (hts (.fieldLink RX7 7 "CakeMarksModel" "row" "[I") (List.mem_of_getElem? (i := 1) rfl)) (fun _ h9 => h9) rfl dX7_isGuest_3 ?_
  refine lv_iconst (v := (0 : Int32)) hx hb dX7_isGuest_6 (by decide) ?_
  obtain ⟨h_1, hw⟩ := hw
  refine va_iald hx hb hK hP 1 0 rfl rfl h_1 dX7_isGuest_7 ?_
  refine lv_iconst (v := (1 : Int32)) hx hb dX7_isGuest_8 (by decide) ?_
  refine lv_isub hx hb dX7_isGuest_9 ?_
  refine zcallS (As := [.int a1, .int (0 : Int32), .int ((uR (0 : Int32).toNatClampNeg) - (1 : Int32))]) (rest := []) (wr := (kModel kI uo ur ux ut un uf uw ub uR uk uX ul uT ui uN uF uW uB ubw ubu ubd ucm ucw ucf)) (Wn := fun u => (kModel kI uo ur ux ut un uf uw ub uR uk uX ul uT ui uN uF uW uB ubw ubu ubd ucm ucw ucf)) ⟨hx, hb, hml, hown, hts⟩ (c_X7_in l dC dI kI kA kC _ a1 (0 : Int32) ((uR (0 : Int32).toNatClampNeg) - (1 : Int32)) _ hw) (va_cwS 3 hts gX7_isGuest_X7_in rfl rfl rfl (by decide +kernel) ⟨Nat.le_of_ble_eq_true rfl, Nat.le_of_ble_eq_true rfl⟩) hK hP hD hS hA [] [0, 1, 2, 3, 4, 5, 6, 7] [0, 1, 2, 3, 4, 5, 6, 7] rfl rfl (by decide) (by decide) (by decide) (fun u => rfl) (by decide) rfl hl.1 rfl (Nat.le_of_ble_eq_true rfl) dX7_isGuest_10 ⟨Nat.zero_le _, Nat.zero_le _⟩ (fun r_2 u H locs hw hP hD hS => ?_)
  have hP : va_P (dC, dI) vwCl (kModel kI uo ur ux ut un uf uw ub uR uk uX ul uT ui uN uF uW uB ubw ubu ubd ucm ucw ucf) H := hP
  have hD : va_D A (kModel kI uo ur ux ut un uf uw ub uR uk uX ul uT ui uN uF uW uB ubw ubu ubd ucm ucw ucf) := hD
  obtain ⟨h_3, hw⟩ := hw
  exact hret 13 r_2 () _ _ _ (fun _ => h_3) hw hP hD hS dX7_isGuest_13
-- CakeMarksModel.areGuests(II)Z
def Wp_X7_areGuests (uR : Nat → Int32) (a1 : Int32) (a2 : Int32) (Z : Int32 → Prop) : Prop := (Wp_X7_isGuest uR a1 (fun r_1 => ((r_1 = (0 : Int32) → (Z (0 : Int32))) ∧ (¬ r_1 = (0 : Int32) → (Wp_X7_isGuest uR a2 (fun r_3 => ((r_3 = (0 : Int32) → (Z (0 : Int32))) ∧ (¬ r_3 = (0 : Int32) → ((a1 = a2 → (Z (0 : Int32))) ∧ (¬ a1 = a2 → (Z (1 : Int32))))))))))))
set_option maxHeartbeats 20000000 in
set_option maxRecDepth 100000 in
theorem c_X7_areGuests (l : Launch) (dC : Nat → ClassId) (dI : Nat → Nat → Nat) (kI kA kC : ClassId) (uo : Nat) (ur : Nat) (ux : Nat) (ut : Nat) (un : Nat) (uf : Nat) (uw : Nat) (ub : Nat) (sz : Nat) (uR : Nat → Int32) (uk : Int32) (uX : Nat → Int32) (ul : Int32) (uT : Nat → Int32) (ui : Int32) (uN : Nat → Int32) (uF : Nat → Int32) (uW : Nat → Int32) (uB : Nat → Int32) (ubw : Int32) (ubu : Int32) (ubd : Int32) (ucm : Int32) (ucw : Int32) (ucf : Int32) (a1 : Int32) (a2 : Int32) (Z : Int32 → Prop) (hw : Wp_X7_areGuests uR a1 a2 Z) : zI l yX7_areGuests wsX7_areGuests ({ frames := 2, cells := 0, slots := 0, locals := 43 }) dC dI kI kA kC sz 0 0 [.ref uo, .int a1, .int a2] (kModel kI uo ur ux ut un uf uw ub uR uk uX ul uT ui uN uF uW uB ubw ubu ubd ucm ucw ucf) (fun (r : Int32) (u : Unit) => Z r ) (fun (u : Unit) => (kModel kI uo ur ux ut un uf uw ub uR uk uX ul uT ui uN uF uW uB ubw ubu ubd ucm ucw ucf)) := by
  refine zI.of (cc := cX7_areGuests) (maxL := 3) (ty := .boolean) (by decide) rfl (Nat.le_of_ble_eq_true rfl) (Or.inr rfl) ?_
  intro p e s m args below meth c A Q C0 hret ls hl
  obtain ⟨hx, hb, hr, hml, hts, hown, hin, hP, hK, hD, hA, hS⟩ := C0
  have hown : s.vm.findClass RX7 = some m.cls := hown
  have hl : lv_has ls 3 [(0, .ref uo), (1, .int a1), (2, .int a2)] := hl
  unfold Wp_X7_areGuests at hw
  refine lv_aload_n hx hb dX7_areGuests_0 rfl (lv_at hl 0 rfl) ?_
  refine lv_iload_n hx hb dX7_areGuests_1 rfl (lv_at hl 1 rfl) ?_
  refine zcallI (ci := 7) (q0 := 0) (As := [.int a1]) (rest := []) (wr := ([] : va_W)) (Wn := fun u => (kModel kI uo ur ux ut un uf uw ub uR uk uX ul uT ui uN uF uW uB ubw ubu ubd ucm ucw ucf)) ⟨hx, hb, hml, hown, hts⟩ (c_X7_isGuest l dC dI kI kA kC uo ur ux ut un uf uw ub _ uR uk uX ul uT ui uN uF uW uB ubw ubu ubd ucm ucw ucf a1 _ hw) (cwV 1 hts gX7_areGuests_X7_isGuest rfl rfl rfl (by decide +kernel) ⟨Nat.le_of_ble_eq_true rfl, Nat.le_of_ble_eq_true rfl⟩) hK hP hD hS hA [0, 1, 2, 3, 4, 5, 6, 7] [] [0, 1, 2, 3, 4, 5, 6, 7] rfl rfl (by decide) (by decide) (by decide) (fun u => rfl) (by decide) rfl rfl rfl rfl hl.1 rfl (Nat.le_of_ble_eq_true rfl) dX7_areGuests_2 ⟨Nat.zero_le _, Nat.zero_le _⟩ (fun r_1 u H locs hw hP hD hS => ?_)
  have hP : va_P (dC, dI) vwCl (kModel kI uo ur ux ut un uf uw ub uR uk uX ul uT ui uN uF uW uB ubw ubu ubd ucm ucw ucf) H := hP
  have hD : va_D A (kModel kI uo ur ux ut un uf uw ub uR uk uX ul uT ui uN uF uW uB ubw ubu ubd ucm ucw ucf) := hD
  refine lv_if_eq (tgt := 25) hx hb dX7_areGuests_5 (by decide) (fun c_2 => ?_) (fun c_2 => ?_)
  · have hw := hw.1 c_2
    refine lv_iconst (v := (0 : Int32)) hx hb dX7_areGuests_25 (by decide) ?_
    exact hret 26 (0 : Int32) () _ _ _ (fun _ => rfl) hw hP hD hS dX7_areGuests_26
  · have hw := hw.2 c_2
    refine lv_aload_n hx hb dX7_areGuests_8 rfl (lv_at hl 0 rfl) ?_
    refine lv_iload_n hx hb dX7_areGuests_9 rfl (lv_at hl 2 rfl) ?_
    refine zcallI (ci := 7) (q0 := 0) (As := [.int a2]) (rest := []) (wr := ([] : va_W)) (Wn := fun u => (kModel kI uo ur ux ut un uf uw ub uR uk uX ul uT ui uN uF uW uB ubw ubu ubd ucm ucw ucf)) ⟨hx, hb, hml, hown, hts⟩ (c_X7_isGuest l dC dI kI kA kC uo ur ux ut un uf uw ub _ uR uk uX ul uT ui uN uF uW uB ubw ubu ubd ucm ucw ucf a2 _ hw) (cwV 1 hts gX7_areGuests_X7_isGuest rfl rfl rfl (by decide +kernel) ⟨Nat.le_of_ble_eq_true rfl, Nat.le_of_ble_eq_true rfl⟩) hK hP hD hS hA [0, 1, 2, 3, 4, 5, 6, 7] [] [0, 1, 2, 3, 4, 5, 6, 7] rfl rfl (by decide) (by decide) (by decide) (fun u => rfl) (by decide) rfl rfl rfl rfl hl.1 rfl (Nat.le_of_ble_eq_true rfl) dX7_areGuests_10 ⟨Nat.zero_le _, Nat.zero_le _⟩ (fun r_3 u H locs hw hP hD hS => ?_)
    have hP : va_P (dC, dI) vwCl (kModel kI uo ur ux ut un uf uw ub uR uk uX ul uT ui uN uF uW uB ubw ubu ubd ucm ucw ucf) H := hP
    have hD : va_D A (kModel kI uo ur ux ut un uf uw ub uR uk uX ul uT ui uN uF uW uB ubw ubu ubd ucm ucw ucf) := hD
    refine lv_if_eq (tgt := 25) hx hb dX7_areGuests_13 (by decide) (fun c_4 => ?_) (fun c_4 => ?_)
    · have hw := hw.1 c_4
      refine lv_iconst (v := (0 : Int32)) hx hb dX7_areGuests_25 (by decide) ?_
      exact hret 26 (0 : Int32) () _ _ _ (fun _ => rfl) hw hP hD hS dX7_areGuests_26
    · have hw := hw.2 c_4
      refine lv_iload_n hx hb dX7_areGuests_16 rfl (lv_at hl 1 rfl) ?_
      refine lv_iload_n hx hb dX7_areGuests_17 rfl (lv_at hl 2 rfl) ?_
      refine lv_icmp_eq (tgt := 25) hx hb dX7_areGuests_18 (by decide) (fun c_5 => ?_) (fun c_5 => ?_)
      · have hw := hw.1 c_5
        refine lv_iconst (v := (0 : Int32)) hx hb dX7_areGuests_25 (by decide) ?_
        exact hret 26 (0 : Int32) () _ _ _ (fun _ => rfl) hw hP hD hS dX7_areGuests_26
      · have hw := hw.2 c_5
        refine lv_iconst (v := (1 : Int32)) hx hb dX7_areGuests_21 (by decide) ?_
        refine lv_goto (tgt := 26) hx hb dX7_areGuests_22 (by decide) ?_
        exact hret 26 (1 : Int32) () _ _ _ (fun _ => rfl) hw hP hD hS dX7_areGuests_26
-- CakeMarksModel.isSpan(II)Z
def Wp_X7_isSpan (a0 : Int32) (a1 : Int32) (Z : Int32 → Prop) : Prop := (Wp_X7_in a0 (0 : Int32) (23 : Int32) (fun r_1 => ((r_1 = (0 : Int32) → (Z (0 : Int32))) ∧ (¬ r_1 = (0 : Int32) → (Wp_X7_in a1 a0 (23 : Int32) (fun r_3 => ((r_3 = (0 : Int32) → (Z (0 : Int32))) ∧ (¬ r_3 = (0 : Int32) → (Z (1 : Int32))))))))))
set_option maxHeartbeats 20000000 in
set_option maxRecDepth 100000 in
theorem c_X7_isSpan (l : Launch) (dC : Nat → ClassId) (dI : Nat → Nat → Nat) (kI kA kC : ClassId) (sz : Nat) (a0 : Int32) (a1 : Int32) (Z : Int32 → Prop) (hw : Wp_X7_isSpan a0 a1 Z) : zI l yX7_isSpan wsX7_isSpan ({ frames := 1, cells := 0, slots := 0, locals := 22 }) dC dI kI kA kC sz 0 0 [.int a0, .int a1] ([] : va_W) (fun (r : Int32) (u : Unit) => Z r ) (fun (u : Unit) => ([] : va_W)) := by
  refine zI.of (cc := cX7_isSpan) (maxL := 2) (ty := .boolean) (by decide) rfl (Nat.le_of_ble_eq_true rfl) (Or.inr rfl) ?_
  intro p e s m args below meth c A Q C0 hret ls hl
  obtain ⟨hx, hb, hr, hml, hts, hown, hin, hP, hK, hD, hA, hS⟩ := C0
  have hown : s.vm.findClass RX7 = some m.cls := hown
  have hl : lv_has ls 2 [(0, .int a0), (1, .int a1)] := hl
  unfold Wp_X7_isSpan at hw
  refine lv_iload_n hx hb dX7_isSpan_0 rfl (lv_at hl 0 rfl) ?_
  refine lv_iconst (v := (0 : Int32)) hx hb dX7_isSpan_1 (by decide) ?_
  refine lv_bipush (v := (23 : Int32)) hx hb dX7_isSpan_2 (by decide) ?_
  refine zcallS (As := [.int a0, .int (0 : Int32), .int (23 : Int32)]) (rest := []) (wr := ([] : va_W)) (Wn := fun u => ([] : va_W)) ⟨hx, hb, hml, hown, hts⟩ (c_X7_in l dC dI kI kA kC _ a0 (0 : Int32) (23 : Int32) _ hw) (va_cwS 3 hts gX7_isSpan_X7_in rfl rfl rfl (by decide +kernel) ⟨Nat.le_of_ble_eq_true rfl, Nat.le_of_ble_eq_true rfl⟩) hK hP hD hS hA [] [] [] rfl rfl (by decide) (by decide) (by decide) (fun u => rfl) (by decide) rfl hl.1 rfl (Nat.le_of_ble_eq_true rfl) dX7_isSpan_4 ⟨Nat.zero_le _, Nat.zero_le _⟩ (fun r_1 u H locs hw hP hD hS => ?_)
  have hP : va_P (dC, dI) vwCl ([] : va_W) H := hP
  have hD : va_D A ([] : va_W) := hD
  refine lv_if_eq (tgt := 24) hx hb dX7_isSpan_7 (by decide) (fun c_2 => ?_) (fun c_2 => ?_)
  · have hw := hw.1 c_2
    refine lv_iconst (v := (0 : Int32)) hx hb dX7_isSpan_24 (by decide) ?_
    exact hret 25 (0 : Int32) () _ _ _ (fun _ => rfl) hw hP hD hS dX7_isSpan_25
  · have hw := hw.2 c_2
    refine lv_iload_n hx hb dX7_isSpan_10 rfl (lv_at hl 1 rfl) ?_
    refine lv_iload_n hx hb dX7_isSpan_11 rfl (lv_at hl 0 rfl) ?_
    refine lv_bipush (v := (23 : Int32)) hx hb dX7_isSpan_12 (by decide) ?_
    refine zcallS (As := [.int a1, .int a0, .int (23 : Int32)]) (rest := []) (wr := ([] : va_W)) (Wn := fun u => ([] : va_W)) ⟨hx, hb, hml, hown, hts⟩ (c_X7_in l dC dI kI kA kC _ a1 a0 (23 : Int32) _ hw) (va_cwS 3 hts gX7_isSpan_X7_in rfl rfl rfl (by decide +kernel) ⟨Nat.le_of_ble_eq_true rfl, Nat.le_of_ble_eq_true rfl⟩) hK hP hD hS hA [] [] [] rfl rfl (by decide) (by decide) (by decide) (fun u => rfl) (by decide) rfl hl.1 rfl (Nat.le_of_ble_eq_true rfl) dX7_isSpan_14 ⟨Nat.zero_le _, Nat.zero_le _⟩ (fun r_3 u H locs hw hP hD hS => ?_)
    have hP : va_P (dC, dI) vwCl ([] : va_W) H := hP
    have hD : va_D A ([] : va_W) := hD
    refine lv_if_eq (tgt := 24) hx hb dX7_isSpan_17 (by decide) (fun c_4 => ?_) (fun c_4 => ?_)
    · have hw := hw.1 c_4
      refine lv_iconst (v := (0 : Int32)) hx hb dX7_isSpan_24 (by decide) ?_
      exact hret 25 (0 : Int32) () _ _ _ (fun _ => rfl) hw hP hD hS dX7_isSpan_25
    · have hw := hw.2 c_4
      refine lv_iconst (v := (1 : Int32)) hx hb dX7_isSpan_20 (by decide) ?_
      refine lv_goto (tgt := 25) hx hb dX7_isSpan_21 (by decide) ?_
      exact hret 25 (1 : Int32) () _ _ _ (fun _ => rfl) hw hP hD hS dX7_isSpan_25
-- CakeMarksModel.valueOf(II)I
def Wp_X7_valueOf (uR : Nat → Int32) (a1 : Int32) (a2 : Int32) (Z : Int32 → Prop) : Prop := (vp_in (((25 : Int32) + ((24 : Int32) * a1)) + a2) 847 ∧ (Z (uR (((25 : Int32) + ((24 : Int32) * a1)) + a2).toNatClampNeg)))
theorem in_X7_valueOf_X7 : ∀ w ∈ u_ws RX7 TX7 16, w ∈ wsX7_valueOf := fun w h => List.mem_cons_of_mem _ (List.mem_append_right _ h)
set_option maxHeartbeats 20000000 in
set_option maxRecDepth 100000 in
theorem c_X7_valueOf (l : Launch) (dC : Nat → ClassId) (dI : Nat → Nat → Nat) (kI kA kC : ClassId) (uo : Nat) (ur : Nat) (ux : Nat) (ut : Nat) (un : Nat) (uf : Nat) (uw : Nat) (ub : Nat) (sz : Nat) (uR : Nat → Int32) (uk : Int32) (uX : Nat → Int32) (ul : Int32) (uT : Nat → Int32) (ui : Int32) (uN : Nat → Int32) (uF : Nat → Int32) (uW : Nat → Int32) (uB : Nat → Int32) (ubw : Int32) (ubu : Int32) (ubd : Int32) (ucm : Int32) (ucw : Int32) (ucf : Int32) (a1 : Int32) (a2 : Int32) (Z : Int32 → Prop) (hw : Wp_X7_valueOf uR a1 a2 Z) : zI l yX7_valueOf wsX7_valueOf ({ frames := 0, cells := 0, slots := 0, locals := 0 }) dC dI kI kA kC sz 0 0 [.ref uo, .int a1, .int a2] (kModel kI uo ur ux ut un uf uw ub uR uk uX ul uT ui uN uF uW uB ubw ubu ubd ucm ucw ucf) (fun (r : Int32) (u : Unit) => Z r ) (fun (u : Unit) => (kModel kI uo ur ux ut un uf uw ub uR uk uX ul uT ui uN uF uW uB ubw ubu ubd ucm ucw ucf)) := by
  refine zI.of (cc := cX7_valueOf) (maxL := 3) (ty := .int) (by decide) rfl (Nat.le_of_ble_eq_true rfl) (Or.inl rfl) ?_
  intro p e s m args below meth c A Q C0 hret ls hl
  obtain ⟨hx, hb, hr, hml, hts, hown, hin, hP, hK, hD, hA, hS⟩ := C0
  have hown : s.vm.findClass RX7 = some m.cls := hown
  have hl : lv_has ls 3 [(0, .ref uo), (1, .int a1), (2, .int a2)] := hl
  unfold Wp_X7_valueOf at hw
  refine lv_aload_n hx hb dX7_valueOf_0 rfl (lv_at hl 0 rfl) ?_
  refine va_get (D := (dC, dI)) (ci := 7) (v := .ref ur) (C := RX7) (T := TX7) (N := 16) hx hb hts in_X7_valueOf_X7 hown hK hP 0 rfl rfl 0 (by decide) (hts (.fieldLink RX7 7 "CakeMarksModel" "row" "[I") (List.mem_of_getElem? (i := 1) rfl)) (fun _ h9 => h9) rfl dX7_valueOf_1 ?_
  refine lv_bipush (v := (25 : Int32)) hx hb dX7_valueOf_4 (by decide) ?_
  refine lv_bipush (v := (24 : Int32)) hx hb dX7_valueOf_6 (by decide) ?_
  refine lv_iload_n hx hb dX7_valueOf_8 rfl (lv_at hl 1 rfl) ?_
  refine lv_imul hx hb dX7_valueOf_9 ?_
  refine lv_iadd hx hb dX7_valueOf_10 ?_
  refine lv_iload_n hx hb dX7_valueOf_11 rfl (lv_at hl 2 rfl) ?_
  refine lv_iadd hx hb dX7_valueOf_12 ?_
  obtain ⟨h_1, hw⟩ := hw
  refine va_iald hx hb hK hP 1 0 rfl rfl h_1 dX7_valueOf_13 ?_
  exact hret 14 (uR (((25 : Int32) + ((24 : Int32) * a1)) + a2).toNatClampNeg) () _ _ _ (fun h => absurd h (by decide)) hw hP hD hS dX7_valueOf_14
-- CakeMarksModel.spanValue(III)I
def B_X7_spanValue_6 (uR : Nat → Int32) (a1 : Int32) (a2 : Int32) (a3 : Int32) (Z : Int32 → Prop) (J6 : Int32 → Int32 → Prop) (x4 : Int32) (x5 : Int32) : Prop := ((a3 ≤ x5 → (Z x4)) ∧ (¬ a3 ≤ x5 → (Wp_X7_valueOf uR a1 x5 (fun r_2 => (J6 (x4 + r_2) (x5 + (1 : Int32)))))))
def Wp_X7_spanValue_6 (uR : Nat → Int32) (a1 : Int32) (a2 : Int32) (a3 : Int32) (Z : Int32 → Prop) (x4 : Int32) (x5 : Int32) : Prop := ∀ (I6 : Int32 → Int32 → Prop), (∀ (J6 : Int32 → Int32 → Prop), (∀ (x4 : Int32) (x5 : Int32), J6 x4 x5 → I6 x4 x5) → ∀ (x4 : Int32) (x5 : Int32), B_X7_spanValue_6 uR a1 a2 a3 Z J6 x4 x5 → I6 x4 x5) → I6 x4 x5
theorem F_X7_spanValue_6 (uR : Nat → Int32) (a1 : Int32) (a2 : Int32) (a3 : Int32) (Z : Int32 → Prop) (x4 : Int32) (x5 : Int32) (h : B_X7_spanValue_6 uR a1 a2 a3 Z (Wp_X7_spanValue_6 uR a1 a2 a3 Z) x4 x5) : Wp_X7_spanValue_6 uR a1 a2 a3 Z x4 x5 := fun I6 h6 => h6 _ (fun x4 x5 hx => hx I6 h6) x4 x5 h
def Wp_X7_spanValue (uR : Nat → Int32) (a1 : Int32) (a2 : Int32) (a3 : Int32) (Z : Int32 → Prop) : Prop := ((Wp_X7_spanValue_6 uR a1 a2 a3 Z) (0 : Int32) a2)
set_option maxHeartbeats 20000000 in
set_option maxRecDepth 100000 in
theorem c_X7_spanValue (l : Launch) (dC : Nat → ClassId) (dI : Nat → Nat → Nat) (kI kA kC : ClassId) (uo : Nat) (ur : Nat) (ux : Nat) (ut : Nat) (un : Nat) (uf : Nat) (uw : Nat) (ub : Nat) (sz : Nat) (uR : Nat → Int32) (uk : Int32) (uX : Nat → Int32) (ul : Int32) (uT : Nat → Int32) (ui : Int32) (uN : Nat → Int32) (uF : Nat → Int32) (uW : Nat → Int32) (uB : Nat → Int32) (ubw : Int32) (ubu : Int32) (ubd : Int32) (ucm : Int32) (ucw : Int32) (ucf : Int32) (a1 : Int32) (a2 : Int32) (a3 : Int32) (Z : Int32 → Prop) (hw : Wp_X7_spanValue uR a1 a2 a3 Z) : zI l yX7_spanValue wsX7_spanValue ({ frames := 1, cells := 0, slots := 0, locals := 22 }) dC dI kI kA kC sz 0 0 [.ref uo, .int a1, .int a2, .int a3] (kModel kI uo ur ux ut un uf uw ub uR uk uX ul uT ui uN uF uW uB ubw ubu ubd ucm ucw ucf) (fun (r : Int32) (u : Unit) => Z r ) (fun (u : Unit) => (kModel kI uo ur ux ut un uf uw ub uR uk uX ul uT ui uN uF uW uB ubw ubu ubd ucm ucw ucf)) := by
  refine zI.of (cc := cX7_spanValue) (maxL := 6) (ty := .int) (by decide) rfl (Nat.le_of_ble_eq_true rfl) (Or.inl rfl) ?_
  intro p e s m args below meth c A Q C0 hret ls hl
  obtain ⟨hx, hb, hr, hml, hts, hown, hin, hP, hK, hD, hA, hS⟩ := C0
  have hown : s.vm.findClass RX7 = some m.cls := hown
  have hl : lv_has ls 6 [(0, .ref uo), (1, .int a1), (2, .int a2), (3, .int a3)] := hl
  have key : ∀ (J6 : Int32 → Int32 → Prop) (hJ6 : ∀ (x4 : Int32) (x5 : Int32), J6 x4 x5 → ∀ (ls : Array Slot) (H : Heap) (locs : List Loc), lv_has ls 6 [(0, .ref uo), (1, .int a1), (3, .int a3), (4, .int x4), (5, .int x5)] → va_P (dC, dI) vwCl (kModel kI uo ur ux ut un uf uw ub uR uk uX ul uT ui uN uF uW uB ubw ubu ubd ucm ucw ucf) H → va_D A (kModel kI uo ur ux ut un uf uw ub uR uk uX ul uT ui uN uF uW uB ubw ubu ubd ucm ucw ucf) → va_S A s.heap H locs → W p l e ({ frames := 1, cells := 0, slots := 0, locals := 22 }) s m args below meth c H locs 0 0 Q (F0 m 6 ls [])), (∀ (x4 : Int32) (x5 : Int32), B_X7_spanValue_6 uR a1 a2 a3 Z J6 x4 x5 → ∀ (ls : Array Slot) (H : Heap) (locs : List Loc), lv_has ls 6 [(0, .ref uo), (1, .int a1), (3, .int a3), (4, .int x4), (5, .int x5)] → va_P (dC, dI) vwCl (kModel kI uo ur ux ut un uf uw ub uR uk uX ul uT ui uN uF uW uB ubw ubu ubd ucm ucw ucf) H → va_D A (kModel kI uo ur ux ut un uf uw ub uR uk uX ul uT ui uN uF uW uB ubw ubu ubd ucm ucw ucf) → va_S A s.heap H locs → W p l e ({ frames := 1, cells := 0, slots := 0, locals := 22 }) s m args below meth c H locs 0 0 Q (F0 m 6 ls [])) := by
    intro J6 hJ6
    · intro x4 x5 hw ls H locs hl hP hD hS
      unfold B_X7_spanValue_6 at hw
      refine lv_iload hx hb dX7_spanValue_6 (lv_at hl 4 rfl) ?_
      refine lv_iload_n hx hb dX7_spanValue_8 rfl (lv_at hl 2 rfl) ?_
      refine lv_icmp_ge (tgt := 30) hx hb dX7_spanValue_9 (by decide) (fun c_1 => ?_) (fun c_1 => ?_)
      · have hw := hw.1 c_1
        refine lv_iload hx hb dX7_spanValue_30 (lv_at hl 3 rfl) ?_
        exact hret 32 x4 () _ _ _ (fun h => absurd h (by decide)) hw hP hD hS dX7_spanValue_32
      · have hw := hw.2 c_1
        refine lv_iload hx hb dX7_spanValue_12 (lv_at hl 3 rfl) ?_
        refine lv_aload_n hx hb dX7_spanValue_14 rfl (lv_at hl 0 rfl) ?_
        refine lv_iload_n hx hb dX7_spanValue_15 rfl (lv_at hl 1 rfl) ?_
        refine lv_iload hx hb dX7_spanValue_16 (lv_at hl 4 rfl) ?_
        refine zcallI (ci := 7) (q0 := 0) (As := [.int a1, .int x5]) (rest := [.int x4]) (wr := ([] : va_W)) (Wn := fun u => (kModel kI uo ur ux ut un uf uw ub uR uk uX ul uT ui uN uF uW uB ubw ubu ubd ucm ucw ucf)) ⟨hx, hb, hml, hown, hts⟩ (c_X7_valueOf l dC dI kI kA kC uo ur ux ut un uf uw ub _ uR uk uX ul uT ui uN uF uW uB ubw ubu ubd ucm ucw ucf a1 x5 _ hw) (cwV 2 hts gX7_spanValue_X7_valueOf rfl rfl rfl (by decide +kernel) ⟨Nat.le_of_ble_eq_true rfl, Nat.le_of_ble_eq_true rfl⟩) hK hP hD hS hA [0, 1, 2, 3, 4, 5, 6, 7] [] [0, 1, 2, 3, 4, 5, 6, 7] rfl rfl (by decide) (by decide) (by decide) (fun u => rfl) (by decide) rfl rfl rfl rfl hl.1 rfl (Nat.le_of_ble_eq_true rfl) dX7_spanValue_18 ⟨Nat.zero_le _, Nat.zero_le _⟩ (fun r_2 u H locs hw hP hD hS => ?_)
        have hP : va_P (dC, dI) vwCl (kModel kI uo ur ux ut un uf uw ub uR uk uX ul uT ui uN uF uW uB ubw ubu ubd ucm ucw ucf) H := hP
        have hD : va_D A (kModel kI uo ur ux ut un uf uw ub uR uk uX ul uT ui uN uF uW uB ubw ubu ubd ucm ucw ucf) := hD
        refine lv_iadd hx hb dX7_spanValue_21 ?_
        refine lv_istore (lv' := [(4, .int (x4 + r_2)), (0, .ref uo), (1, .int a1), (3, .int a3), (5, .int x5)]) hx hb dX7_spanValue_22 hl (by decide) rfl (fun ls hl => ?_)
        refine lv_iinc (v := (x5 + (1 : Int32))) (lv' := [(5, .int (x5 + (1 : Int32))), (4, .int (x4 + r_2)), (0, .ref uo), (1, .int a1), (3, .int a3)]) hx hb dX7_spanValue_24 hl (k := 4) rfl (by first | rfl | decide) (by decide) rfl (fun ls hl => ?_)
        refine lv_goto (tgt := 6) hx hb dX7_spanValue_27 (by decide) ?_
        exact hJ6 (x4 + r_2) (x5 + (1 : Int32)) hw ls _ _ (lv_sub hl [2, 3, 4, 1, 0] rfl) hP hD hS
  have hJ6 : ∀ (x4 : Int32) (x5 : Int32), Wp_X7_spanValue_6 uR a1 a2 a3 Z x4 x5 → ∀ (ls : Array Slot) (H : Heap) (locs : List Loc), lv_has ls 6 [(0, .ref uo), (1, .int a1), (3, .int a3), (4, .int x4), (5, .int x5)] → va_P (dC, dI) vwCl (kModel kI uo ur ux ut un uf uw ub uR uk uX ul uT ui uN uF uW uB ubw ubu ubd ucm ucw ucf) H → va_D A (kModel kI uo ur ux ut un uf uw ub uR uk uX ul uT ui uN uF uW uB ubw ubu ubd ucm ucw ucf) → va_S A s.heap H locs → W p l e ({ frames := 1, cells := 0, slots := 0, locals := 22 }) s m args below meth c H locs 0 0 Q (F0 m 6 ls []) := fun x4 x5 hv => hv (fun x4 x5 => ∀ (ls : Array Slot) (H : Heap) (locs : List Loc), lv_has ls 6 [(0, .ref uo), (1, .int a1), (3, .int a3), (4, .int x4), (5, .int x5)] → va_P (dC, dI) vwCl (kModel kI uo ur ux ut un uf uw ub uR uk uX ul uT ui uN uF uW uB ubw ubu ubd ucm ucw ucf) H → va_D A (kModel kI uo ur ux ut un uf uw ub uR uk uX ul uT ui uN uF uW uB ubw ubu ubd ucm ucw ucf) → va_S A s.heap H locs → W p l e ({ frames := 1, cells := 0, slots := 0, locals := 22 }) s m args below meth c H locs 0 0 Q (F0 m 6 ls [])) (fun J6 q6 => (key J6 q6))
  unfold Wp_X7_spanValue at hw
  refine lv_iconst (v := (0 : Int32)) hx hb dX7_spanValue_0 (by decide) ?_
  refine lv_istore (lv' := [(4, .int (0 : Int32)), (0, .ref uo), (1, .int a1), (2, .int a2), (3, .int a3)]) hx hb dX7_spanValue_1 hl (by decide) rfl (fun ls hl => ?_)
  refine lv_iload_n hx hb dX7_spanValue_3 rfl (lv_at hl 3 rfl) ?_
  refine lv_istore (lv' := [(5, .int a2), (4, .int (0 : Int32)), (0, .ref uo), (1, .int a1), (2, .int a2), (3, .int a3)]) hx hb dX7_spanValue_4 hl (by decide) rfl (fun ls hl => ?_)
  exact hJ6 (0 : Int32) a2 hw ls _ _ (lv_sub hl [2, 3, 5, 1, 0] rfl) hP hD hS
-- CakeMarksModel.total(I)I
def Wp_X7_total (uR : Nat → Int32) (a1 : Int32) (Z : Int32 → Prop) : Prop := (Wp_X7_spanValue uR a1 (0 : Int32) (24 : Int32) (fun r_1 => (Z r_1)))
set_option maxHeartbeats 20000000 in
set_option maxRecDepth 100000 in
theorem c_X7_total (l : Launch) (dC : Nat → ClassId) (dI : Nat → Nat → Nat) (kI kA kC : ClassId) (uo : Nat) (ur : Nat) (ux : Nat) (ut : Nat) (un : Nat) (uf : Nat) (uw : Nat) (ub : Nat) (sz : Nat) (uR : Nat → Int32) (uk : Int32) (uX : Nat → Int32) (ul : Int32) (uT : Nat → Int32) (ui : Int32) (uN : Nat → Int32) (uF : Nat → Int32) (uW : Nat → Int32) (uB : Nat → Int32) (ubw : Int32) (ubu : Int32) (ubd : Int32) (ucm : Int32) (ucw : Int32) (ucf : Int32) (a1 : Int32) (Z : Int32 → Prop) (hw : Wp_X7_total uR a1 Z) : zI l yX7_total wsX7_total ({ frames := 2, cells := 0, slots := 0, locals := 47 }) dC dI kI kA kC sz 0 0 [.ref uo, .int a1] (kModel kI uo ur ux ut un uf uw ub uR uk uX ul uT ui uN uF uW uB ubw ubu ubd ucm ucw ucf) (fun (r : Int32) (u : Unit) => Z r ) (fun (u : Unit) => (kModel kI uo ur ux ut un uf uw ub uR uk uX ul uT ui uN uF uW uB ubw ubu ubd ucm ucw ucf)) := by
  refine zI.of (cc := cX7_total) (maxL := 2) (ty := .int) (by decide) rfl (Nat.le_of_ble_eq_true rfl) (Or.inl rfl) ?_
  intro p e s m args below meth c A Q C0 hret ls hl
  obtain ⟨hx, hb, hr, hml, hts, hown, hin, hP, hK, hD, hA, hS⟩ := C0
  have hown : s.vm.findClass RX7 = some m.cls := hown
  have hl : lv_has ls 2 [(0, .ref uo), (1, .int a1)] := hl
  unfold Wp_X7_total at hw
  refine lv_aload_n hx hb dX7_total_0 rfl (lv_at hl 0 rfl) ?_
  refine lv_iload_n hx hb dX7_total_1 rfl (lv_at hl 1 rfl) ?_
  refine lv_iconst (v := (0 : Int32)) hx hb dX7_total_2 (by decide) ?_
  refine lv_bipush (v := (24 : Int32)) hx hb dX7_total_3 (by decide) ?_
  refine zcallI (ci := 7) (q0 := 0) (As := [.int a1, .int (0 : Int32), .int (24 : Int32)]) (rest := []) (wr := ([] : va_W)) (Wn := fun u => (kModel kI uo ur ux ut un uf uw ub uR uk uX ul uT ui uN uF uW uB ubw ubu ubd ucm ucw ucf)) ⟨hx, hb, hml, hown, hts⟩ (c_X7_spanValue l dC dI kI kA kC uo ur ux ut un uf uw ub _ uR uk uX ul uT ui uN uF uW uB ubw ubu ubd ucm ucw ucf a1 (0 : Int32) (24 : Int32) _ hw) (cwV 3 hts gX7_total_X7_spanValue rfl rfl rfl (by decide +kernel) ⟨Nat.le_of_ble_eq_true rfl, Nat.le_of_ble_eq_true rfl⟩) hK hP hD hS hA [0, 1, 2, 3, 4, 5, 6, 7] [] [0, 1, 2, 3, 4, 5, 6, 7] rfl rfl (by decide) (by decide) (by decide) (fun u => rfl) (by decide) rfl rfl rfl rfl hl.1 rfl (Nat.le_of_ble_eq_true rfl) dX7_total_5 ⟨Nat.zero_le _, Nat.zero_le _⟩ (fun r_1 u H locs hw hP hD hS => ?_)
  have hP : va_P (dC, dI) vwCl (kModel kI uo ur ux ut un uf uw ub uR uk uX ul uT ui uN uF uW uB ubw ubu ubd ucm ucw ucf) H := hP
  have hD : va_D A (kModel kI uo ur ux ut un uf uw ub uR uk uX ul uT ui uN uF uW uB ubw ubu ubd ucm ucw ucf) := hD
  exact hret 8 r_1 () _ _ _ (fun h => absurd h (by decide)) hw hP hD hS dX7_total_8
-- CakeMarksModel.pieceValue(II)I
def B_X7_pieceValue_5 (uR : Nat → Int32) (a1 : Int32) (a2 : Int32) (Z : Int32 → Prop) (J5 : Int32 → Int32 → Prop) (x3 : Int32) (x4 : Int32) : Prop := (((24 : Int32) ≤ x4 → (Z x3)) ∧ (¬ (24 : Int32) ≤ x4 → (vp_in ((1 : Int32) + x4) 847 ∧ ((¬ (uR ((1 : Int32) + x4).toNatClampNeg) = a2 → (J5 (x3 + (0 : Int32)) (x4 + (1 : Int32)))) ∧ ((uR ((1 : Int32) + x4).toNatClampNeg) = a2 → (Wp_X7_valueOf uR a1 x4 (fun r_4 => (J5 (x3 + r_4) (x4 + (1 : Int32))))))))))
def Wp_X7_pieceValue_5 (uR : Nat → Int32) (a1 : Int32) (a2 : Int32) (Z : Int32 → Prop) (x3 : Int32) (x4 : Int32) : Prop := ∀ (I5 : Int32 → Int32 → Prop), (∀ (J5 : Int32 → Int32 → Prop), (∀ (x3 : Int32) (x4 : Int32), J5 x3 x4 → I5 x3 x4) → ∀ (x3 : Int32) (x4 : Int32), B_X7_pieceValue_5 uR a1 a2 Z J5 x3 x4 → I5 x3 x4) → I5 x3 x4
theorem F_X7_pieceValue_5 (uR : Nat → Int32) (a1 : Int32) (a2 : Int32) (Z : Int32 → Prop) (x3 : Int32) (x4 : Int32) (h : B_X7_pieceValue_5 uR a1 a2 Z (Wp_X7_pieceValue_5 uR a1 a2 Z) x3 x4) : Wp_X7_pieceValue_5 uR a1 a2 Z x3 x4 := fun I5 h5 => h5 _ (fun x3 x4 hx => hx I5 h5) x3 x4 h
def Wp_X7_pieceValue (uR : Nat → Int32) (a1 : Int32) (a2 : Int32) (Z : Int32 → Prop) : Prop := ((Wp_X7_pieceValue_5 uR a1 a2 Z) (0 : Int32) (0 : Int32))
theorem in_X7_pieceValue_X7 : ∀ w ∈ u_ws RX7 TX7 16, w ∈ wsX7_pieceValue := fun w h => List.mem_cons_of_mem _ (List.mem_append_right _ h)
set_option maxHeartbeats 20000000 in
set_option maxRecDepth 100000 in
theorem c_X7_pieceValue (l : Launch) (dC : Nat → ClassId) (dI : Nat → Nat → Nat) (kI kA kC : ClassId) (uo : Nat) (ur : Nat) (ux : Nat) (ut : Nat) (un : Nat) (uf : Nat) (uw : Nat) (ub : Nat) (sz : Nat) (uR : Nat → Int32) (uk : Int32) (uX : Nat → Int32) (ul : Int32) (uT : Nat → Int32) (ui : Int32) (uN : Nat → Int32) (uF : Nat → Int32) (uW : Nat → Int32) (uB : Nat → Int32) (ubw : Int32) (ubu : Int32) (ubd : Int32) (ucm : Int32) (ucw : Int32) (ucf : Int32) (a1 : Int32) (a2 : Int32) (Z : Int32 → Prop) (hw : Wp_X7_pieceValue uR a1 a2 Z) : zI l yX7_pieceValue wsX7_pieceValue ({ frames := 1, cells := 0, slots := 0, locals := 22 }) dC dI kI kA kC sz 0 0 [.ref uo, .int a1, .int a2] (kModel kI uo ur ux ut un uf uw ub uR uk uX ul uT ui uN uF uW uB ubw ubu ubd ucm ucw ucf) (fun (r : Int32) (u : Unit) => Z r ) (fun (u : Unit) => (kModel kI uo ur ux ut un uf uw ub uR uk uX ul uT ui uN uF uW uB ubw ubu ubd ucm ucw ucf)) := by
  refine zI.of (cc := cX7_pieceValue) (maxL := 5) (ty := .int) (by decide) rfl (Nat.le_of_ble_eq_true rfl) (Or.inl rfl) ?_
  intro p e s m args below meth c A Q C0 hret ls hl
  obtain ⟨hx, hb, hr, hml, hts, hown, hin, hP, hK, hD, hA, hS⟩ := C0
  have hown : s.vm.findClass RX7 = some m.cls := hown
  have hl : lv_has ls 5 [(0, .ref uo), (1, .int a1), (2, .int a2)] := hl
  have key : ∀ (J5 : Int32 → Int32 → Prop) (hJ5 : ∀ (x3 : Int32) (x4 : Int32), J5 x3 x4 → ∀ (ls : Array Slot) (H : Heap) (locs : List Loc), lv_has ls 5 [(0, .ref uo), (1, .int a1), (2, .int a2), (3, .int x3), (4, .int x4)] → va_P (dC, dI) vwCl (kModel kI uo ur ux ut un uf uw ub uR uk uX ul uT ui uN uF uW uB ubw ubu ubd ucm ucw ucf) H → va_D A (kModel kI uo ur ux ut un uf uw ub uR uk uX ul uT ui uN uF uW uB ubw ubu ubd ucm ucw ucf) → va_S A s.heap H locs → W p l e ({ frames := 1, cells := 0, slots := 0, locals := 22 }) s m args below meth c H locs 0 0 Q (F0 m 5 ls [])), (∀ (x3 : Int32) (x4 : Int32), B_X7_pieceValue_5 uR a1 a2 Z J5 x3 x4 → ∀ (ls : Array Slot) (H : Heap) (locs : List Loc), lv_has ls 5 [(0, .ref uo), (1, .int a1), (2, .int a2), (3, .int x3), (4, .int x4)] → va_P (dC, dI) vwCl (kModel kI uo ur ux ut un uf uw ub uR uk uX ul uT ui uN uF uW uB ubw ubu ubd ucm ucw ucf) H → va_D A (kModel kI uo ur ux ut un uf uw ub uR uk uX ul uT ui uN uF uW uB ubw ubu ubd ucm ucw ucf) → va_S A s.heap H locs → W p l e ({ frames := 1, cells := 0, slots := 0, locals := 22 }) s m args below meth c H locs 0 0 Q (F0 m 5 ls [])) := by
    intro J5 hJ5
    · intro x3 x4 hw ls H locs hl hP hD hS
      unfold B_X7_pieceValue_5 at hw
      refine lv_iload hx hb dX7_pieceValue_5 (lv_at hl 4 rfl) ?_
      refine lv_bipush (v := (24 : Int32)) hx hb dX7_pieceValue_7 (by decide) ?_
      refine lv_icmp_ge (tgt := 45) hx hb dX7_pieceValue_9 (by decide) (fun c_1 => ?_) (fun c_1 => ?_)
      · have hw := hw.1 c_1
        refine lv_iload_n hx hb dX7_pieceValue_45 rfl (lv_at hl 3 rfl) ?_
        exact hret 46 x3 () _ _ _ (fun h => absurd h (by decide)) hw hP hD hS dX7_pieceValue_46
      · have hw := hw.2 c_1
        refine lv_iload_n hx hb dX7_pieceValue_12 rfl (lv_at hl 3 rfl) ?_
        refine lv_aload_n hx hb dX7_pieceValue_13 rfl (lv_at hl 0 rfl) ?_
        refine va_get (D := (dC, dI)) (ci := 7) (v := .ref ur) (C := RX7) (T := TX7) (N := 16) hx hb hts in_X7_pieceValue_X7 hown hK hP 0 rfl rfl 0 (by decide) (hts (.fieldLink RX7 7 "CakeMarksModel" "row" "[I") (List.mem_of_getElem? (i := 1) rfl)) (fun _ h9 => h9) rfl dX7_pieceValue_14 ?_
        refine lv_iconst (v := (1 : Int32)) hx hb dX7_pieceValue_17 (by decide) ?_
        refine lv_iload hx hb dX7_pieceValue_18 (lv_at hl 4 rfl) ?_
        refine lv_iadd hx hb dX7_pieceValue_20 ?_
        obtain ⟨h_2, hw⟩ := hw
        refine va_iald hx hb hK hP 1 0 rfl rfl h_2 dX7_pieceValue_21 ?_
        refine lv_iload_n hx hb dX7_pieceValue_22 rfl (lv_at hl 2 rfl) ?_
        refine lv_icmp_ne (tgt := 36) hx hb dX7_pieceValue_23 (by decide) (fun c_3 => ?_) (fun c_3 => ?_)
        · have hw := hw.1 c_3
          refine lv_iconst (v := (0 : Int32)) hx hb dX7_pieceValue_36 (by decide) ?_
          refine lv_iadd hx hb dX7_pieceValue_37 ?_
          refine lv_istore_n (lv' := [(3, .int (x3 + (0 : Int32))), (0, .ref uo), (1, .int a1), (2, .int a2), (4, .int x4)]) hx hb dX7_pieceValue_38 rfl hl (by decide) rfl (fun ls hl => ?_)
          refine lv_iinc (v := (x4 + (1 : Int32))) (lv' := [(4, .int (x4 + (1 : Int32))), (3, .int (x3 + (0 : Int32))), (0, .ref uo), (1, .int a1), (2, .int a2)]) hx hb dX7_pieceValue_39 hl (k := 4) rfl (by first | rfl | decide) (by decide) rfl (fun ls hl => ?_)
          refine lv_goto (tgt := 5) hx hb dX7_pieceValue_42 (by decide) ?_
          exact hJ5 (x3 + (0 : Int32)) (x4 + (1 : Int32)) hw ls _ _ (lv_sub hl [2, 3, 4, 1, 0] rfl) hP hD hS
        · have hw := hw.2 c_3
          refine lv_aload_n hx hb dX7_pieceValue_26 rfl (lv_at hl 0 rfl) ?_
          refine lv_iload_n hx hb dX7_pieceValue_27 rfl (lv_at hl 1 rfl) ?_
          refine lv_iload hx hb dX7_pieceValue_28 (lv_at hl 4 rfl) ?_
          refine zcallI (ci := 7) (q0 := 0) (As := [.int a1, .int x4]) (rest := [.int x3]) (wr := ([] : va_W)) (Wn := fun u => (kModel kI uo ur ux ut un uf uw ub uR uk uX ul uT ui uN uF uW uB ubw ubu ubd ucm ucw ucf)) ⟨hx, hb, hml, hown, hts⟩ (c_X7_valueOf l dC dI kI kA kC uo ur ux ut un uf uw ub _ uR uk uX ul uT ui uN uF uW uB ubw ubu ubd ucm ucw ucf a1 x4 _ hw) (cwV 2 hts gX7_pieceValue_X7_valueOf rfl rfl rfl (by decide +kernel) ⟨Nat.le_of_ble_eq_true rfl, Nat.le_of_ble_eq_true rfl⟩) hK hP hD hS hA [0, 1, 2, 3, 4, 5, 6, 7] [] [0, 1, 2, 3, 4, 5, 6, 7] rfl rfl (by decide) (by decide) (by decide) (fun u => rfl) (by decide) rfl rfl rfl rfl hl.1 rfl (Nat.le_of_ble_eq_true rfl) dX7_pieceValue_30 ⟨Nat.zero_le _, Nat.zero_le _⟩ (fun r_4 u H locs hw hP hD hS => ?_)
          have hP : va_P (dC, dI) vwCl (kModel kI uo ur ux ut un uf uw ub uR uk uX ul uT ui uN uF uW uB ubw ubu ubd ucm ucw ucf) H := hP
          have hD : va_D A (kModel kI uo ur ux ut un uf uw ub uR uk uX ul uT ui uN uF uW uB ubw ubu ubd ucm ucw ucf) := hD
          refine lv_goto (tgt := 37) hx hb dX7_pieceValue_33 (by decide) ?_
          refine lv_iadd hx hb dX7_pieceValue_37 ?_
          refine lv_istore_n (lv' := [(3, .int (x3 + r_4)), (0, .ref uo), (1, .int a1), (2, .int a2), (4, .int x4)]) hx hb dX7_pieceValue_38 rfl hl (by decide) rfl (fun ls hl => ?_)
          refine lv_iinc (v := (x4 + (1 : Int32))) (lv' := [(4, .int (x4 + (1 : Int32))), (3, .int (x3 + r_4)), (0, .ref uo), (1, .int a1), (2, .int a2)]) hx hb dX7_pieceValue_39 hl (k := 4) rfl (by first | rfl | decide) (by decide) rfl (fun ls hl => ?_)
          refine lv_goto (tgt := 5) hx hb dX7_pieceValue_42 (by decide) ?_
          exact hJ5 (x3 + r_4) (x4 + (1 : Int32)) hw ls _ _ (lv_sub hl [2, 3, 4, 1, 0] rfl) hP hD hS
  have hJ5 : ∀ (x3 : Int32) (x4 : Int32), Wp_X7_pieceValue_5 uR a1 a2 Z x3 x4 → ∀ (ls : Array Slot) (H : Heap) (locs : List Loc), lv_has ls 5 [(0, .ref uo), (1, .int a1), (2, .int a2), (3, .int x3), (4, .int x4)] → va_P (dC, dI) vwCl (kModel kI uo ur ux ut un uf uw ub uR uk uX ul uT ui uN uF uW uB ubw ubu ubd ucm ucw ucf) H → va_D A (kModel kI uo ur ux ut un uf uw ub uR uk uX ul uT ui uN uF uW uB ubw ubu ubd ucm ucw ucf) → va_S A s.heap H locs → W p l e ({ frames := 1, cells := 0, slots := 0, locals := 22 }) s m args below meth c H locs 0 0 Q (F0 m 5 ls []) := fun x3 x4 hv => hv (fun x3 x4 => ∀ (ls : Array Slot) (H : Heap) (locs : List Loc), lv_has ls 5 [(0, .ref uo), (1, .int a1), (2, .int a2), (3, .int x3), (4, .int x4)] → va_P (dC, dI) vwCl (kModel kI uo ur ux ut un uf uw ub uR uk uX ul uT ui uN uF uW uB ubw ubu ubd ucm ucw ucf) H → va_D A (kModel kI uo ur ux ut un uf uw ub uR uk uX ul uT ui uN uF uW uB ubw ubu ubd ucm ucw ucf) → va_S A s.heap H locs → W p l e ({ frames := 1, cells := 0, slots := 0, locals := 22 }) s m args below meth c H locs 0 0 Q (F0 m 5 ls [])) (fun J5 q5 => (key J5 q5))
  unfold Wp_X7_pieceValue at hw
  refine lv_iconst (v := (0 : Int32)) hx hb dX7_pieceValue_0 (by decide) ?_
  refine lv_istore_n (lv' := [(3, .int (0 : Int32)), (0, .ref uo), (1, .int a1), (2, .int a2)]) hx hb dX7_pieceValue_1 rfl hl (by decide) rfl (fun ls hl => ?_)
  refine lv_iconst (v := (0 : Int32)) hx hb dX7_pieceValue_2 (by decide) ?_
  refine lv_istore (lv' := [(4, .int (0 : Int32)), (3, .int (0 : Int32)), (0, .ref uo), (1, .int a1), (2, .int a2)]) hx hb dX7_pieceValue_3 hl (by decide) rfl (fun ls hl => ?_)
  exact hJ5 (0 : Int32) (0 : Int32) hw ls _ _ (lv_sub hl [2, 3, 4, 1, 0] rfl) hP hD hS
-- CakeMarksModel.envyOf(II)I
def Wp_X7_envyOf (uR : Nat → Int32) (a1 : Int32) (a2 : Int32) (Z : Int32 → Prop) : Prop := (Wp_X7_pieceValue uR a1 a2 (fun r_1 => (Wp_X7_pieceValue uR a1 a1 (fun r_2 => (((r_1 - r_2) ≤ (0 : Int32) → (Z (0 : Int32))) ∧ (¬ (r_1 - r_2) ≤ (0 : Int32) → (Z (r_1 - r_2))))))))
set_option maxHeartbeats 20000000 in
set_option maxRecDepth 100000 in
theorem c_X7_envyOf (l : Launch) (dC : Nat → ClassId) (dI : Nat → Nat → Nat) (kI kA kC : ClassId) (uo : Nat) (ur : Nat) (ux : Nat) (ut : Nat) (un : Nat) (uf : Nat) (uw : Nat) (ub : Nat) (sz : Nat) (uR : Nat → Int32) (uk : Int32) (uX : Nat → Int32) (ul : Int32) (uT : Nat → Int32) (ui : Int32) (uN : Nat → Int32) (uF : Nat → Int32) (uW : Nat → Int32) (uB : Nat → Int32) (ubw : Int32) (ubu : Int32) (ubd : Int32) (ucm : Int32) (ucw : Int32) (ucf : Int32) (a1 : Int32) (a2 : Int32) (Z : Int32 → Prop) (hw : Wp_X7_envyOf uR a1 a2 Z) : zI l yX7_envyOf wsX7_envyOf ({ frames := 2, cells := 0, slots := 0, locals := 46 }) dC dI kI kA kC sz 0 0 [.ref uo, .int a1, .int a2] (kModel kI uo ur ux ut un uf uw ub uR uk uX ul uT ui uN uF uW uB ubw ubu ubd ucm ucw ucf) (fun (r : Int32) (u : Unit) => Z r ) (fun (u : Unit) => (kModel kI uo ur ux ut un uf uw ub uR uk uX ul uT ui uN uF uW uB ubw ubu ubd ucm ucw ucf)) := by
  refine zI.of (cc := cX7_envyOf) (maxL := 4) (ty := .int) (by decide) rfl (Nat.le_of_ble_eq_true rfl) (Or.inl rfl) ?_
  intro p e s m args below meth c A Q C0 hret ls hl
  obtain ⟨hx, hb, hr, hml, hts, hown, hin, hP, hK, hD, hA, hS⟩ := C0
  have hown : s.vm.findClass RX7 = some m.cls := hown
  have hl : lv_has ls 4 [(0, .ref uo), (1, .int a1), (2, .int a2)] := hl
  unfold Wp_X7_envyOf at hw
  refine lv_aload_n hx hb dX7_envyOf_0 rfl (lv_at hl 0 rfl) ?_
  refine lv_iload_n hx hb dX7_envyOf_1 rfl (lv_at hl 1 rfl) ?_
  refine lv_iload_n hx hb dX7_envyOf_2 rfl (lv_at hl 2 rfl) ?_
  refine zcallI (ci := 7) (q0 := 0) (As := [.int a1, .int a2]) (rest := []) (wr := ([] : va_W)) (Wn := fun u => (kModel kI uo ur ux ut un uf uw ub uR uk uX ul uT ui uN uF uW uB ubw ubu ubd ucm ucw ucf)) ⟨hx, hb, hml, hown, hts⟩ (c_X7_pieceValue l dC dI kI kA kC uo ur ux ut un uf uw ub _ uR uk uX ul uT ui uN uF uW uB ubw ubu ubd ucm ucw ucf a1 a2 _ hw) (cwV 2 hts gX7_envyOf_X7_pieceValue rfl rfl rfl (by decide +kernel) ⟨Nat.le_of_ble_eq_true rfl, Nat.le_of_ble_eq_true rfl⟩) hK hP hD hS hA [0, 1, 2, 3, 4, 5, 6, 7] [] [0, 1, 2, 3, 4, 5, 6, 7] rfl rfl (by decide) (by decide) (by decide) (fun u => rfl) (by decide) rfl rfl rfl rfl hl.1 rfl (Nat.le_of_ble_eq_true rfl) dX7_envyOf_3 ⟨Nat.zero_le _, Nat.zero_le _⟩ (fun r_1 u H locs hw hP hD hS => ?_)
  have hP : va_P (dC, dI) vwCl (kModel kI uo ur ux ut un uf uw ub uR uk uX ul uT ui uN uF uW uB ubw ubu ubd ucm ucw ucf) H := hP
  have hD : va_D A (kModel kI uo ur ux ut un uf uw ub uR uk uX ul uT ui uN uF uW uB ubw ubu ubd ucm ucw ucf) := hD
  refine lv_aload_n hx hb dX7_envyOf_6 rfl (lv_at hl 0 rfl) ?_
  refine lv_iload_n hx hb dX7_envyOf_7 rfl (lv_at hl 1 rfl) ?_
  refine lv_iload_n hx hb dX7_envyOf_8 rfl (lv_at hl 1 rfl) ?_
  refine zcallI (ci := 7) (q0 := 0) (As := [.int a1, .int a1]) (rest := [.int r_1]) (wr := ([] : va_W)) (Wn := fun u => (kModel kI uo ur ux ut un uf uw ub uR uk uX ul uT ui uN uF uW uB ubw ubu ubd ucm ucw ucf)) ⟨hx, hb, hml, hown, hts⟩ (c_X7_pieceValue l dC dI kI kA kC uo ur ux ut un uf uw ub _ uR uk uX ul uT ui uN uF uW uB ubw ubu ubd ucm ucw ucf a1 a1 _ hw) (cwV 2 hts gX7_envyOf_X7_pieceValue rfl rfl rfl (by decide +kernel) ⟨Nat.le_of_ble_eq_true rfl, Nat.le_of_ble_eq_true rfl⟩) hK hP hD hS hA [0, 1, 2, 3, 4, 5, 6, 7] [] [0, 1, 2, 3, 4, 5, 6, 7] rfl rfl (by decide) (by decide) (by decide) (fun u => rfl) (by decide) rfl rfl rfl rfl hl.1 rfl (Nat.le_of_ble_eq_true rfl) dX7_envyOf_9 ⟨Nat.zero_le _, Nat.zero_le _⟩ (fun r_2 u H locs hw hP hD hS => ?_)
  have hP : va_P (dC, dI) vwCl (kModel kI uo ur ux ut un uf uw ub uR uk uX ul uT ui uN uF uW uB ubw ubu ubd ucm ucw ucf) H := hP
  have hD : va_D A (kModel kI uo ur ux ut un uf uw ub uR uk uX ul uT ui uN uF uW uB ubw ubu ubd ucm ucw ucf) := hD
  refine lv_isub hx hb dX7_envyOf_12 ?_
  refine lv_istore_n (lv' := [(3, .int (r_1 - r_2)), (0, .ref uo), (1, .int a1), (2, .int a2)]) hx hb dX7_envyOf_13 rfl hl (by decide) rfl (fun ls hl => ?_)
  refine lv_iload_n hx hb dX7_envyOf_14 rfl (lv_at hl 0 rfl) ?_
  refine lv_if_le (tgt := 22) hx hb dX7_envyOf_15 (by decide) (fun c_3 => ?_) (fun c_3 => ?_)
  · have hw := hw.1 c_3
    refine lv_iconst (v := (0 : Int32)) hx hb dX7_envyOf_22 (by decide) ?_
    exact hret 23 (0 : Int32) () _ _ _ (fun h => absurd h (by decide)) hw hP hD hS dX7_envyOf_23
  · have hw := hw.2 c_3
    refine lv_iload_n hx hb dX7_envyOf_18 rfl (lv_at hl 0 rfl) ?_
    refine lv_goto (tgt := 23) hx hb dX7_envyOf_19 (by decide) ?_
    exact hret 23 (r_1 - r_2) () _ _ _ (fun h => absurd h (by decide)) hw hP hD hS dX7_envyOf_23
-- CakeMarksModel.addGuest()I
def B_X7_addGuest_36 (Z : Int32 → (Nat → Int32) → Int32 → Prop) (J36 : Int32 → Int32 → (Nat → Int32) → Int32 → Prop) (x1 : Int32) (x2 : Int32) (uR : Nat → Int32) (uk : Int32) : Prop := (((24 : Int32) ≤ x2 → (Z x1 uR uk)) ∧ (¬ (24 : Int32) ≤ x2 → (vp_in (((25 : Int32) + ((24 : Int32) * x1)) + x2) 847 ∧ (J36 x1 (x2 + (1 : Int32)) (upd uR (((25 : Int32) + ((24 : Int32) * x1)) + x2).toNatClampNeg (1 : Int32)) uk))))
def Wp_X7_addGuest_36 (Z : Int32 → (Nat → Int32) → Int32 → Prop) (x1 : Int32) (x2 : Int32) (uR : Nat → Int32) (uk : Int32) : Prop := ∀ (I36 : Int32 → Int32 → (Nat → Int32) → Int32 → Prop), (∀ (J36 : Int32 → Int32 → (Nat → Int32) → Int32 → Prop), (∀ (x1 : Int32) (x2 : Int32) (uR : Nat → Int32) (uk : Int32), J36 x1 x2 uR uk → I36 x1 x2 uR uk) → ∀ (x1 : Int32) (x2 : Int32) (uR : Nat → Int32) (uk : Int32), B_X7_addGuest_36 Z J36 x1 x2 uR uk → I36 x1 x2 uR uk) → I36 x1 x2 uR uk
theorem F_X7_addGuest_36 (Z : Int32 → (Nat → Int32) → Int32 → Prop) (x1 : Int32) (x2 : Int32) (uR : Nat → Int32) (uk : Int32) (h : B_X7_addGuest_36 Z (Wp_X7_addGuest_36 Z) x1 x2 uR uk) : Wp_X7_addGuest_36 Z x1 x2 uR uk := fun I36 h36 => h36 _ (fun x1 x2 uR uk hx => hx I36 h36) x1 x2 uR uk h
def Wp_X7_addGuest (uR : Nat → Int32) (uk : Int32) (Z : Int32 → (Nat → Int32) → Int32 → Prop) : Prop := (vp_in (0 : Int32) 847 ∧ ((¬ (uR (0 : Int32).toNatClampNeg) = (4 : Int32) → (Wp_X7_records uR uk (fun uR_3 uk_4 => ((Wp_X7_addGuest_36 Z) (uR_3 (0 : Int32).toNatClampNeg) (0 : Int32) (upd uR_3 (0 : Int32).toNatClampNeg ((uR_3 (0 : Int32).toNatClampNeg) + (1 : Int32))) uk_4)))) ∧ ((uR (0 : Int32).toNatClampNeg) = (4 : Int32) → (Z (-3 : Int32) uR uk))))
theorem in_X7_addGuest_X7 : ∀ w ∈ u_ws RX7 TX7 16, w ∈ wsX7_addGuest := fun w h => List.mem_cons_of_mem _ (List.mem_append_right _ h)
set_option maxHeartbeats 20000000 in
set_option maxRecDepth 100000 in
theorem c_X7_addGuest (l : Launch) (dC : Nat → ClassId) (dI : Nat → Nat → Nat) (kI kA kC : ClassId) (uo : Nat) (ur : Nat) (ux : Nat) (ut : Nat) (un : Nat) (uf : Nat) (uw : Nat) (ub : Nat) (sz : Nat) (uR : Nat → Int32) (uk : Int32) (uX : Nat → Int32) (ul : Int32) (uT : Nat → Int32) (ui : Int32) (uN : Nat → Int32) (uF : Nat → Int32) (uW : Nat → Int32) (uB : Nat → Int32) (ubw : Int32) (ubu : Int32) (ubd : Int32) (ucm : Int32) (ucw : Int32) (ucf : Int32) (Z : Int32 → (Nat → Int32) → Int32 → Prop) (hw : Wp_X7_addGuest uR uk Z) : zI l yX7_addGuest wsX7_addGuest ({ frames := 2, cells := 0, slots := 0, locals := 44 }) dC dI kI kA kC sz 0 0 [.ref uo] (kModel kI uo ur ux ut un uf uw ub uR uk uX ul uT ui uN uF uW uB ubw ubu ubd ucm ucw ucf) (fun (r : Int32) (u : (Nat → Int32) × Int32) => Z r u.1 u.2) (fun (u : (Nat → Int32) × Int32) => (kModel kI uo ur ux ut un uf uw ub u.1 u.2 uX ul uT ui uN uF uW uB ubw ubu ubd ucm ucw ucf)) := by
  refine zI.of (cc := cX7_addGuest) (maxL := 3) (ty := .int) (by decide) rfl (Nat.le_of_ble_eq_true rfl) (Or.inl rfl) ?_
  intro p e s m args below meth c A Q C0 hret ls hl
  obtain ⟨hx, hb, hr, hml, hts, hown, hin, hP, hK, hD, hA, hS⟩ := C0
  have hown : s.vm.findClass RX7 = some m.cls := hown
  have hl : lv_has ls 3 [(0, .ref uo)] := hl
  have key : ∀ (J36 : Int32 → Int32 → (Nat → Int32) → Int32 → Prop) (hJ36 : ∀ (x1 : Int32) (x2 : Int32) (uR : Nat → Int32) (uk : Int32), J36 x1 x2 uR uk → ∀ (ls : Array Slot) (H : Heap) (locs : List Loc), lv_has ls 3 [(0, .ref uo), (1, .int x1), (2, .int x2)] → va_P (dC, dI) vwCl (kModel kI uo ur ux ut un uf uw ub uR uk uX ul uT ui uN uF uW uB ubw ubu ubd ucm ucw ucf) H → va_D A (kModel kI uo ur ux ut un uf uw ub uR uk uX ul uT ui uN uF uW uB ubw ubu ubd ucm ucw ucf) → va_S A s.heap H locs → W p l e ({ frames := 2, cells := 0, slots := 0, locals := 44 }) s m args below meth c H locs 0 0 Q (F0 m 36 ls [])), (∀ (x1 : Int32) (x2 : Int32) (uR : Nat → Int32) (uk : Int32), B_X7_addGuest_36 Z J36 x1 x2 uR uk → ∀ (ls : Array Slot) (H : Heap) (locs : List Loc), lv_has ls 3 [(0, .ref uo), (1, .int x1), (2, .int x2)] → va_P (dC, dI) vwCl (kModel kI uo ur ux ut un uf uw ub uR uk uX ul uT ui uN uF uW uB ubw ubu ubd ucm ucw ucf) H → va_D A (kModel kI uo ur ux ut un uf uw ub uR uk uX ul uT ui uN uF uW uB ubw ubu ubd ucm ucw ucf) → va_S A s.heap H locs → W p l e ({ frames := 2, cells := 0, slots := 0, locals := 44 }) s m args below meth c H locs 0 0 Q (F0 m 36 ls [])) := by
    intro J36 hJ36
    · intro x1 x2 uR uk hw ls H locs hl hP hD hS
      unfold B_X7_addGuest_36 at hw
      refine lv_iload_n hx hb dX7_addGuest_36 rfl (lv_at hl 2 rfl) ?_
      refine lv_bipush (v := (24 : Int32)) hx hb dX7_addGuest_37 (by decide) ?_
      refine lv_icmp_ge (tgt := 63) hx hb dX7_addGuest_39 (by decide) (fun c_5 => ?_) (fun c_5 => ?_)
      · have hw := hw.1 c_5
        refine lv_iload_n hx hb dX7_addGuest_63 rfl (lv_at hl 1 rfl) ?_
        exact hret 64 x1 (uR, uk) _ _ _ (fun h => absurd h (by decide)) hw hP hD hS dX7_addGuest_64
      · have hw := hw.2 c_5
        refine lv_aload_n hx hb dX7_addGuest_42 rfl (lv_at hl 0 rfl) ?_
        refine va_get (D := (dC, dI)) (ci := 7) (v := .ref ur) (C := RX7) (T := TX7) (N := 16) hx hb hts in_X7_addGuest_X7 hown hK hP 0 rfl rfl 0 (by decide) (hts (.fieldLink RX7 7 "CakeMarksModel" "row" "[I") (List.mem_of_getElem? (i := 1) rfl)) (fun _ h9 => h9) rfl dX7_addGuest_43 ?_
        refine lv_bipush (v := (25 : Int32)) hx hb dX7_addGuest_46 (by decide) ?_
        refine lv_bipush (v := (24 : Int32)) hx hb dX7_addGuest_48 (by decide) ?_
        refine lv_iload_n hx hb dX7_addGuest_50 rfl (lv_at hl 1 rfl) ?_
        refine lv_imul hx hb dX7_addGuest_51 ?_
        refine lv_iadd hx hb dX7_addGuest_52 ?_
        refine lv_iload_n hx hb dX7_addGuest_53 rfl (lv_at hl 2 rfl) ?_
        refine lv_iadd hx hb dX7_addGuest_54 ?_
        refine lv_iconst (v := (1 : Int32)) hx hb dX7_addGuest_55 (by decide) ?_
        obtain ⟨h_6, hw⟩ := hw
        refine va_iast hx hb hK hP hD hS 1 0 rfl rfl h_6 dX7_addGuest_56 (fun H locs hP hD hS => ?_)
        have hP : va_P (dC, dI) vwCl (kModel kI uo ur ux ut un uf uw ub (upd uR (((25 : Int32) + ((24 : Int32) * x1)) + x2).toNatClampNeg (1 : Int32)) uk uX ul uT ui uN uF uW uB ubw ubu ubd ucm ucw ucf) H := hP
        have hD : va_D A (kModel kI uo ur ux ut un uf uw ub (upd uR (((25 : Int32) + ((24 : Int32) * x1)) + x2).toNatClampNeg (1 : Int32)) uk uX ul uT ui uN uF uW uB ubw ubu ubd ucm ucw ucf) := hD
        refine lv_iinc (v := (x2 + (1 : Int32))) (lv' := [(2, .int (x2 + (1 : Int32))), (0, .ref uo), (1, .int x1)]) hx hb dX7_addGuest_57 hl (k := 2) rfl (by first | rfl | decide) (by decide) rfl (fun ls hl => ?_)
        refine lv_goto (tgt := 36) hx hb dX7_addGuest_60 (by decide) ?_
        exact hJ36 x1 (x2 + (1 : Int32)) (upd uR (((25 : Int32) + ((24 : Int32) * x1)) + x2).toNatClampNeg (1 : Int32)) uk hw ls _ _ (lv_sub hl [1, 2, 0] rfl) hP hD hS
  have hJ36 : ∀ (x1 : Int32) (x2 : Int32) (uR : Nat → Int32) (uk : Int32), Wp_X7_addGuest_36 Z x1 x2 uR uk → ∀ (ls : Array Slot) (H : Heap) (locs : List Loc), lv_has ls 3 [(0, .ref uo), (1, .int x1), (2, .int x2)] → va_P (dC, dI) vwCl (kModel kI uo ur ux ut un uf uw ub uR uk uX ul uT ui uN uF uW uB ubw ubu ubd ucm ucw ucf) H → va_D A (kModel kI uo ur ux ut un uf uw ub uR uk uX ul uT ui uN uF uW uB ubw ubu ubd ucm ucw ucf) → va_S A s.heap H locs → W p l e ({ frames := 2, cells := 0, slots := 0, locals := 44 }) s m args below meth c H locs 0 0 Q (F0 m 36 ls []) := fun x1 x2 uR uk hv => hv (fun x1 x2 uR uk => ∀ (ls : Array Slot) (H : Heap) (locs : List Loc), lv_has ls 3 [(0, .ref uo), (1, .int x1), (2, .int x2)] → va_P (dC, dI) vwCl (kModel kI uo ur ux ut un uf uw ub uR uk uX ul uT ui uN uF uW uB ubw ubu ubd ucm ucw ucf) H → va_D A (kModel kI uo ur ux ut un uf uw ub uR uk uX ul uT ui uN uF uW uB ubw ubu ubd ucm ucw ucf) → va_S A s.heap H locs → W p l e ({ frames := 2, cells := 0, slots := 0, locals := 44 }) s m args below meth c H locs 0 0 Q (F0 m 36 ls [])) (fun J36 q36 => (key J36 q36))
  unfold Wp_X7_addGuest at hw
  refine lv_aload_n hx hb dX7_addGuest_0 rfl (lv_at hl 0 rfl) ?_
  refine va_get (D := (dC, dI)) (ci := 7) (v := .ref ur) (C := RX7) (T := TX7) (N := 16) hx hb hts in_X7_addGuest_X7 hown hK hP 0 rfl rfl 0 (by decide) (hts (.fieldLink RX7 7 "CakeMarksModel" "row" "[I") (List.mem_of_getElem? (i := 1) rfl)) (fun _ h9 => h9) rfl dX7_addGuest_1 ?_
  refine lv_iconst (v := (0 : Int32)) hx hb dX7_addGuest_4 (by decide) ?_
  obtain ⟨h_1, hw⟩ := hw
  refine va_iald hx hb hK hP 1 0 rfl rfl h_1 dX7_addGuest_5 ?_
  refine lv_iconst (v := (4 : Int32)) hx hb dX7_addGuest_6 (by decide) ?_
  refine lv_icmp_ne (tgt := 13) hx hb dX7_addGuest_7 (by decide) (fun c_2 => ?_) (fun c_2 => ?_)
  · have hw := hw.1 c_2
    refine lv_aload_n hx hb dX7_addGuest_13 rfl (lv_at hl 0 rfl) ?_
    refine zcallV (ci := 7) (q0 := 0) (As := []) (rest := []) (wr := ([] : va_W)) (Wn := fun u => (kModel kI uo ur ux ut un uf uw ub u.1 u.2 uX ul uT ui uN uF uW uB ubw ubu ubd ucm ucw ucf)) ⟨hx, hb, hml, hown, hts⟩ (c_X7_records l dC dI kI kA kC uo ur ux ut un uf uw ub _ uR uk uX ul uT ui uN uF uW uB ubw ubu ubd ucm ucw ucf _ hw) (cwV 0 hts gX7_addGuest_X7_records rfl rfl rfl (by decide +kernel) ⟨Nat.le_of_ble_eq_true rfl, Nat.le_of_ble_eq_true rfl⟩) hK hP hD hS hA [0, 1, 2, 3, 4, 5, 6, 7] [] [0, 1, 2, 3, 4, 5, 6, 7] rfl rfl (by decide) (by decide) (by decide) (fun u => rfl) (by decide) rfl rfl rfl rfl hl.1 rfl (Nat.le_of_ble_eq_true rfl) dX7_addGuest_14 ⟨Nat.zero_le _, Nat.zero_le _⟩ (fun u H locs hw hP hD hS => ?_)
    obtain ⟨uR_3, uk_4⟩ := u
    have hP : va_P (dC, dI) vwCl (kModel kI uo ur ux ut un uf uw ub uR_3 uk_4 uX ul uT ui uN uF uW uB ubw ubu ubd ucm ucw ucf) H := hP
    have hD : va_D A (kModel kI uo ur ux ut un uf uw ub uR_3 uk_4 uX ul uT ui uN uF uW uB ubw ubu ubd ucm ucw ucf) := hD
    refine lv_aload_n hx hb dX7_addGuest_17 rfl (lv_at hl 0 rfl) ?_
    refine va_get (D := (dC, dI)) (ci := 7) (v := .ref ur) (C := RX7) (T := TX7) (N := 16) hx hb hts in_X7_addGuest_X7 hown hK hP 0 rfl rfl 0 (by decide) (hts (.fieldLink RX7 7 "CakeMarksModel" "row" "[I") (List.mem_of_getElem? (i := 1) rfl)) (fun _ h9 => h9) rfl dX7_addGuest_18 ?_
    refine lv_iconst (v := (0 : Int32)) hx hb dX7_addGuest_21 (by decide) ?_
    refine va_iald hx hb hK hP 1 0 rfl rfl h_1 dX7_addGuest_22 ?_
    refine lv_istore_n (lv' := [(1, .int (uR_3 (0 : Int32).toNatClampNeg)), (0, .ref uo)]) hx hb dX7_addGuest_23 rfl hl (by decide) rfl (fun ls hl => ?_)
    refine lv_aload_n hx hb dX7_addGuest_24 rfl (lv_at hl 1 rfl) ?_
    refine va_get (D := (dC, dI)) (ci := 7) (v := .ref ur) (C := RX7) (T := TX7) (N := 16) hx hb hts in_X7_addGuest_X7 hown hK hP 0 rfl rfl 0 (by decide) (hts (.fieldLink RX7 7 "CakeMarksModel" "row" "[I") (List.mem_of_getElem? (i := 1) rfl)) (fun _ h9 => h9) rfl dX7_addGuest_25 ?_
    refine lv_iconst (v := (0 : Int32)) hx hb dX7_addGuest_28 (by decide) ?_
    refine lv_dup2_11 hx hb dX7_addGuest_29 rfl rfl ?_
    refine va_iald hx hb hK hP 1 0 rfl rfl h_1 dX7_addGuest_30 ?_
    refine lv_iconst (v := (1 : Int32)) hx hb dX7_addGuest_31 (by decide) ?_
    refine lv_iadd hx hb dX7_addGuest_32 ?_
    refine va_iast hx hb hK hP hD hS 1 0 rfl rfl h_1 dX7_addGuest_33 (fun H locs hP hD hS => ?_)
    have hP : va_P (dC, dI) vwCl (kModel kI uo ur ux ut un uf uw ub (upd uR_3 (0 : Int32).toNatClampNeg ((uR_3 (0 : Int32).toNatClampNeg) + (1 : Int32))) uk_4 uX ul uT ui uN uF uW uB ubw ubu ubd ucm ucw ucf) H := hP
    have hD : va_D A (kModel kI uo ur ux ut un uf uw ub (upd uR_3 (0 : Int32).toNatClampNeg ((uR_3 (0 : Int32).toNatClampNeg) + (1 : Int32))) uk_4 uX ul uT ui uN uF uW uB ubw ubu ubd ucm ucw ucf) := hD
    refine lv_iconst (v := (0 : Int32)) hx hb dX7_addGuest_34 (by decide) ?_
    refine lv_istore_n (lv' := [(2, .int (0 : Int32)), (1, .int (uR_3 (0 : Int32).toNatClampNeg)), (0, .ref uo)]) hx hb dX7_addGuest_35 rfl hl (by decide) rfl (fun ls hl => ?_)
    exact hJ36 (uR_3 (0 : Int32).toNatClampNeg) (0 : Int32) (upd uR_3 (0 : Int32).toNatClampNeg ((uR_3 (0 : Int32).toNatClampNeg) + (1 : Int32))) uk_4 hw ls _ _ (lv_sub hl [2, 1, 0] rfl) hP hD hS
  · have hw := hw.2 c_2
    refine lv_bipush (v := (-3 : Int32)) hx hb dX7_addGuest_10 (by decide) ?_
    exact hret 12 (-3 : Int32) (uR, uk) _ _ _ (fun h => absurd h (by decide)) hw hP hD hS dX7_addGuest_12
-- CakeMarksModel.setValue(IIII)I
def B_X7_setValue_36 (a1 : Int32) (a2 : Int32) (a3 : Int32) (a4 : Int32) (Z : Int32 → (Nat → Int32) → Int32 → Prop) (J36 : Int32 → (Nat → Int32) → Int32 → Prop) (x5 : Int32) (uR : Nat → Int32) (uk : Int32) : Prop := ((a3 < x5 → (Wp_X7_total uR a1 (fun r_10 => (Z r_10 uR uk)))) ∧ (¬ a3 < x5 → (vp_in (((25 : Int32) + ((24 : Int32) * a1)) + x5) 847 ∧ (J36 (x5 + (1 : Int32)) (upd uR (((25 : Int32) + ((24 : Int32) * a1)) + x5).toNatClampNeg a4) uk))))
def Wp_X7_setValue_36 (a1 : Int32) (a2 : Int32) (a3 : Int32) (a4 : Int32) (Z : Int32 → (Nat → Int32) → Int32 → Prop) (x5 : Int32) (uR : Nat → Int32) (uk : Int32) : Prop := ∀ (I36 : Int32 → (Nat → Int32) → Int32 → Prop), (∀ (J36 : Int32 → (Nat → Int32) → Int32 → Prop), (∀ (x5 : Int32) (uR : Nat → Int32) (uk : Int32), J36 x5 uR uk → I36 x5 uR uk) → ∀ (x5 : Int32) (uR : Nat → Int32) (uk : Int32), B_X7_setValue_36 a1 a2 a3 a4 Z J36 x5 uR uk → I36 x5 uR uk) → I36 x5 uR uk
theorem F_X7_setValue_36 (a1 : Int32) (a2 : Int32) (a3 : Int32) (a4 : Int32) (Z : Int32 → (Nat → Int32) → Int32 → Prop) (x5 : Int32) (uR : Nat → Int32) (uk : Int32) (h : B_X7_setValue_36 a1 a2 a3 a4 Z (Wp_X7_setValue_36 a1 a2 a3 a4 Z) x5 uR uk) : Wp_X7_setValue_36 a1 a2 a3 a4 Z x5 uR uk := fun I36 h36 => h36 _ (fun x5 uR uk hx => hx I36 h36) x5 uR uk h
def Wp_X7_setValue (uR : Nat → Int32) (uk : Int32) (a1 : Int32) (a2 : Int32) (a3 : Int32) (a4 : Int32) (Z : Int32 → (Nat → Int32) → Int32 → Prop) : Prop := (Wp_X7_isGuest uR a1 (fun r_1 => ((r_1 = (0 : Int32) → (Z (-1 : Int32) uR uk)) ∧ (¬ r_1 = (0 : Int32) → (Wp_X7_isSpan a2 a3 (fun r_3 => ((r_3 = (0 : Int32) → (Z (-1 : Int32) uR uk)) ∧ (¬ r_3 = (0 : Int32) → (Wp_X7_in a4 (0 : Int32) (9 : Int32) (fun r_5 => ((¬ r_5 = (0 : Int32) → (Wp_X7_records uR uk (fun uR_7 uk_8 => ((Wp_X7_setValue_36 a1 a2 a3 a4 Z) a2 uR_7 uk_8)))) ∧ (r_5 = (0 : Int32) → (Z (-1 : Int32) uR uk)))))))))))))
theorem in_X7_setValue_X7 : ∀ w ∈ u_ws RX7 TX7 16, w ∈ wsX7_setValue := fun w h => List.mem_cons_of_mem _ (List.mem_append_right _ h)
set_option maxHeartbeats 20000000 in
set_option maxRecDepth 100000 in
theorem c_X7_setValue (l : Launch) (dC : Nat → ClassId) (dI : Nat → Nat → Nat) (kI kA kC : ClassId) (uo : Nat) (ur : Nat) (ux : Nat) (ut : Nat) (un : Nat) (uf : Nat) (uw : Nat) (ub : Nat) (sz : Nat) (uR : Nat → Int32) (uk : Int32) (uX : Nat → Int32) (ul : Int32) (uT : Nat → Int32) (ui : Int32) (uN : Nat → Int32) (uF : Nat → Int32) (uW : Nat → Int32) (uB : Nat → Int32) (ubw : Int32) (ubu : Int32) (ubd : Int32) (ucm : Int32) (ucw : Int32) (ucf : Int32) (a1 : Int32) (a2 : Int32) (a3 : Int32) (a4 : Int32) (Z : Int32 → (Nat → Int32) → Int32 → Prop) (hw : Wp_X7_setValue uR uk a1 a2 a3 a4 Z) : zI l yX7_setValue wsX7_setValue ({ frames := 3, cells := 0, slots := 0, locals := 68 }) dC dI kI kA kC sz 0 0 [.ref uo, .int a1, .int a2, .int a3, .int a4] (kModel kI uo ur ux ut un uf uw ub uR uk uX ul uT ui uN uF uW uB ubw ubu ubd ucm ucw ucf) (fun (r : Int32) (u : (Nat → Int32) × Int32) => Z r u.1 u.2) (fun (u : (Nat → Int32) × Int32) => (kModel kI uo ur ux ut un uf uw ub u.1 u.2 uX ul uT ui uN uF uW uB ubw ubu ubd ucm ucw ucf)) := by
  refine zI.of (cc := cX7_setValue) (maxL := 6) (ty := .int) (by decide) rfl (Nat.le_of_ble_eq_true rfl) (Or.inl rfl) ?_
  intro p e s m args below meth c A Q C0 hret ls hl
  obtain ⟨hx, hb, hr, hml, hts, hown, hin, hP, hK, hD, hA, hS⟩ := C0
  have hown : s.vm.findClass RX7 = some m.cls := hown
  have hl : lv_has ls 6 [(0, .ref uo), (1, .int a1), (2, .int a2), (3, .int a3), (4, .int a4)] := hl
  have key : ∀ (J36 : Int32 → (Nat → Int32) → Int32 → Prop) (hJ36 : ∀ (x5 : Int32) (uR : Nat → Int32) (uk : Int32), J36 x5 uR uk → ∀ (ls : Array Slot) (H : Heap) (locs : List Loc), lv_has ls 6 [(0, .ref uo), (1, .int a1), (3, .int a3), (4, .int a4), (5, .int x5)] → va_P (dC, dI) vwCl (kModel kI uo ur ux ut un uf uw ub uR uk uX ul uT ui uN uF uW uB ubw ubu ubd ucm ucw ucf) H → va_D A (kModel kI uo ur ux ut un uf uw ub uR uk uX ul uT ui uN uF uW uB ubw ubu ubd ucm ucw ucf) → va_S A s.heap H locs → W p l e ({ frames := 3, cells := 0, slots := 0, locals := 68 }) s m args below meth c H locs 0 0 Q (F0 m 36 ls [])), (∀ (x5 : Int32) (uR : Nat → Int32) (uk : Int32), B_X7_setValue_36 a1 a2 a3 a4 Z J36 x5 uR uk → ∀ (ls : Array Slot) (H : Heap) (locs : List Loc), lv_has ls 6 [(0, .ref uo), (1, .int a1), (3, .int a3), (4, .int a4), (5, .int x5)] → va_P (dC, dI) vwCl (kModel kI uo ur ux ut un uf uw ub uR uk uX ul uT ui uN uF uW uB ubw ubu ubd ucm ucw ucf) H → va_D A (kModel kI uo ur ux ut un uf uw ub uR uk uX ul uT ui uN uF uW uB ubw ubu ubd ucm ucw ucf) → va_S A s.heap H locs → W p l e ({ frames := 3, cells := 0, slots := 0, locals := 68 }) s m args below meth c H locs 0 0 Q (F0 m 36 ls [])) := by
    intro J36 hJ36
    · intro x5 uR uk hw ls H locs hl hP hD hS
      unfold B_X7_setValue_36 at hw
      refine lv_iload hx hb dX7_setValue_36 (lv_at hl 4 rfl) ?_
      refine lv_iload_n hx hb dX7_setValue_38 rfl (lv_at hl 2 rfl) ?_
      refine lv_icmp_gt (tgt := 65) hx hb dX7_setValue_39 (by decide) (fun c_9 => ?_) (fun c_9 => ?_)
      · have hw := hw.1 c_9
        refine lv_aload_n hx hb dX7_setValue_65 rfl (lv_at hl 0 rfl) ?_
        refine lv_iload_n hx hb dX7_setValue_66 rfl (lv_at hl 1 rfl) ?_
        refine zcallI (ci := 7) (q0 := 0) (As := [.int a1]) (rest := []) (wr := ([] : va_W)) (Wn := fun u => (kModel kI uo ur ux ut un uf uw ub uR uk uX ul uT ui uN uF uW uB ubw ubu ubd ucm ucw ucf)) ⟨hx, hb, hml, hown, hts⟩ (c_X7_total l dC dI kI kA kC uo ur ux ut un uf uw ub _ uR uk uX ul uT ui uN uF uW uB ubw ubu ubd ucm ucw ucf a1 _ hw) (cwV 1 hts gX7_setValue_X7_total rfl rfl rfl (by decide +kernel) ⟨Nat.le_of_ble_eq_true rfl, Nat.le_of_ble_eq_true rfl⟩) hK hP hD hS hA [0, 1, 2, 3, 4, 5, 6, 7] [] [0, 1, 2, 3, 4, 5, 6, 7] rfl rfl (by decide) (by decide) (by decide) (fun u => rfl) (by decide) rfl rfl rfl rfl hl.1 rfl (Nat.le_of_ble_eq_true rfl) dX7_setValue_67 ⟨Nat.zero_le _, Nat.zero_le _⟩ (fun r_10 u H locs hw hP hD hS => ?_)
        have hP : va_P (dC, dI) vwCl (kModel kI uo ur ux ut un uf uw ub uR uk uX ul uT ui uN uF uW uB ubw ubu ubd ucm ucw ucf) H := hP
        have hD : va_D A (kModel kI uo ur ux ut un uf uw ub uR uk uX ul uT ui uN uF uW uB ubw ubu ubd ucm ucw ucf) := hD
        exact hret 70 r_10 (uR, uk) _ _ _ (fun h => absurd h (by decide)) hw hP hD hS dX7_setValue_70
      · have hw := hw.2 c_9
        refine lv_aload_n hx hb dX7_setValue_42 rfl (lv_at hl 0 rfl) ?_
        refine va_get (D := (dC, dI)) (ci := 7) (v := .ref ur) (C := RX7) (T := TX7) (N := 16) hx hb hts in_X7_setValue_X7 hown hK hP 0 rfl rfl 0 (by decide) (hts (.fieldLink RX7 7 "CakeMarksModel" "row" "[I") (List.mem_of_getElem? (i := 1) rfl)) (fun _ h9 => h9) rfl dX7_setValue_43 ?_
        refine lv_bipush (v := (25 : Int32)) hx hb dX7_setValue_46 (by decide) ?_
        refine lv_bipush (v := (24 : Int32)) hx hb dX7_setValue_48 (by decide) ?_
        refine lv_iload_n hx hb dX7_setValue_50 rfl (lv_at hl 1 rfl) ?_
        refine lv_imul hx hb dX7_setValue_51 ?_
        refine lv_iadd hx hb dX7_setValue_52 ?_
        refine lv_iload hx hb dX7_setValue_53 (lv_at hl 4 rfl) ?_
        refine lv_iadd hx hb dX7_setValue_55 ?_
        refine lv_iload hx hb dX7_setValue_56 (lv_at hl 3 rfl) ?_
        obtain ⟨h_11, hw⟩ := hw
        refine va_iast hx hb hK hP hD hS 1 0 rfl rfl h_11 dX7_setValue_58 (fun H locs hP hD hS => ?_)
        have hP : va_P (dC, dI) vwCl (kModel kI uo ur ux ut un uf uw ub (upd uR (((25 : Int32) + ((24 : Int32) * a1)) + x5).toNatClampNeg a4) uk uX ul uT ui uN uF uW uB ubw ubu ubd ucm ucw ucf) H := hP
        have hD : va_D A (kModel kI uo ur ux ut un uf uw ub (upd uR (((25 : Int32) + ((24 : Int32) * a1)) + x5).toNatClampNeg a4) uk uX ul uT ui uN uF uW uB ubw ubu ubd ucm ucw ucf) := hD
        refine lv_iinc (v := (x5 + (1 : Int32))) (lv' := [(5, .int (x5 + (1 : Int32))), (0, .ref uo), (1, .int a1), (3, .int a3), (4, .int a4)]) hx hb dX7_setValue_59 hl (k := 4) rfl (by first | rfl | decide) (by decide) rfl (fun ls hl => ?_)
        refine lv_goto (tgt := 36) hx hb dX7_setValue_62 (by decide) ?_
        exact hJ36 (x5 + (1 : Int32)) (upd uR (((25 : Int32) + ((24 : Int32) * a1)) + x5).toNatClampNeg a4) uk hw ls _ _ (lv_sub hl [1, 2, 3, 4, 0] rfl) hP hD hS
  have hJ36 : ∀ (x5 : Int32) (uR : Nat → Int32) (uk : Int32), Wp_X7_setValue_36 a1 a2 a3 a4 Z x5 uR uk → ∀ (ls : Array Slot) (H : Heap) (locs : List Loc), lv_has ls 6 [(0, .ref uo), (1, .int a1), (3, .int a3), (4, .int a4), (5, .int x5)] → va_P (dC, dI) vwCl (kModel kI uo ur ux ut un uf uw ub uR uk uX ul uT ui uN uF uW uB ubw ubu ubd ucm ucw ucf) H → va_D A (kModel kI uo ur ux ut un uf uw ub uR uk uX ul uT ui uN uF uW uB ubw ubu ubd ucm ucw ucf) → va_S A s.heap H locs → W p l e ({ frames := 3, cells := 0, slots := 0, locals := 68 }) s m args below meth c H locs 0 0 Q (F0 m 36 ls []) := fun x5 uR uk hv => hv (fun x5 uR uk => ∀ (ls : Array Slot) (H : Heap) (locs : List Loc), lv_has ls 6 [(0, .ref uo), (1, .int a1), (3, .int a3), (4, .int a4), (5, .int x5)] → va_P (dC, dI) vwCl (kModel kI uo ur ux ut un uf uw ub uR uk uX ul uT ui uN uF uW uB ubw ubu ubd ucm ucw ucf) H → va_D A (kModel kI uo ur ux ut un uf uw ub uR uk uX ul uT ui uN uF uW uB ubw ubu ubd ucm ucw ucf) → va_S A s.heap H locs → W p l e ({ frames := 3, cells := 0, slots := 0, locals := 68 }) s m args below meth c H locs 0 0 Q (F0 m 36 ls [])) (fun J36 q36 => (key J36 q36))
  unfold Wp_X7_setValue at hw
  refine lv_aload_n hx hb dX7_setValue_0 rfl (lv_at hl 0 rfl) ?_
  refine lv_iload_n hx hb dX7_setValue_1 rfl (lv_at hl 1 rfl) ?_
  refine zcallI (ci := 7) (q0 := 0) (As := [.int a1]) (rest := []) (wr := ([] : va_W)) (Wn := fun u => (kModel kI uo ur ux ut un uf uw ub uR uk uX ul uT ui uN uF uW uB ubw ubu ubd ucm ucw ucf)) ⟨hx, hb, hml, hown, hts⟩ (c_X7_isGuest l dC dI kI kA kC uo ur ux ut un uf uw ub _ uR uk uX ul uT ui uN uF uW uB ubw ubu ubd ucm ucw ucf a1 _ hw) (cwV 1 hts gX7_setValue_X7_isGuest rfl rfl rfl (by decide +kernel) ⟨Nat.le_of_ble_eq_true rfl, Nat.le_of_ble_eq_true rfl⟩) hK hP hD hS hA [0, 1, 2, 3, 4, 5, 6, 7] [] [0, 1, 2, 3, 4, 5, 6, 7] rfl rfl (by decide) (by decide) (by decide) (fun u => rfl) (by decide) rfl rfl rfl rfl hl.1 rfl (Nat.le_of_ble_eq_true rfl) dX7_setValue_2 ⟨Nat.zero_le _, Nat.zero_le _⟩ (fun r_1 u H locs hw hP hD hS => ?_)
  have hP : va_P (dC, dI) vwCl (kModel kI uo ur ux ut un uf uw ub uR uk uX ul uT ui uN uF uW uB ubw ubu ubd ucm ucw ucf) H := hP
  have hD : va_D A (kModel kI uo ur ux ut un uf uw ub uR uk uX ul uT ui uN uF uW uB ubw ubu ubd ucm ucw ucf) := hD
  refine lv_if_eq (tgt := 27) hx hb dX7_setValue_5 (by decide) (fun c_2 => ?_) (fun c_2 => ?_)
  · have hw := hw.1 c_2
    refine lv_iconst (v := (-1 : Int32)) hx hb dX7_setValue_27 (by decide) ?_
    exact hret 28 (-1 : Int32) (uR, uk) _ _ _ (fun h => absurd h (by decide)) hw hP hD hS dX7_setValue_28
  · have hw := hw.2 c_2
    refine lv_iload_n hx hb dX7_setValue_8 rfl (lv_at hl 2 rfl) ?_
    refine lv_iload_n hx hb dX7_setValue_9 rfl (lv_at hl 3 rfl) ?_
    refine zcallS (As := [.int a2, .int a3]) (rest := []) (wr := (kModel kI uo ur ux ut un uf uw ub uR uk uX ul uT ui uN uF uW uB ubw ubu ubd ucm ucw ucf)) (Wn := fun u => (kModel kI uo ur ux ut un uf uw ub uR uk uX ul uT ui uN uF uW uB ubw ubu ubd ucm ucw ucf)) ⟨hx, hb, hml, hown, hts⟩ (c_X7_isSpan l dC dI kI kA kC _ a2 a3 _ hw) (va_cwS 2 hts gX7_setValue_X7_isSpan rfl rfl rfl (by decide +kernel) ⟨Nat.le_of_ble_eq_true rfl, Nat.le_of_ble_eq_true rfl⟩) hK hP hD hS hA [] [0, 1, 2, 3, 4, 5, 6, 7] [0, 1, 2, 3, 4, 5, 6, 7] rfl rfl (by decide) (by decide) (by decide) (fun u => rfl) (by decide) rfl hl.1 rfl (Nat.le_of_ble_eq_true rfl) dX7_setValue_10 ⟨Nat.zero_le _, Nat.zero_le _⟩ (fun r_3 u H locs hw hP hD hS => ?_)
    have hP : va_P (dC, dI) vwCl (kModel kI uo ur ux ut un uf uw ub uR uk uX ul uT ui uN uF uW uB ubw ubu ubd ucm ucw ucf) H := hP
    have hD : va_D A (kModel kI uo ur ux ut un uf uw ub uR uk uX ul uT ui uN uF uW uB ubw ubu ubd ucm ucw ucf) := hD
    refine lv_if_eq (tgt := 27) hx hb dX7_setValue_13 (by decide) (fun c_4 => ?_) (fun c_4 => ?_)
    · have hw := hw.1 c_4
      refine lv_iconst (v := (-1 : Int32)) hx hb dX7_setValue_27 (by decide) ?_
      exact hret 28 (-1 : Int32) (uR, uk) _ _ _ (fun h => absurd h (by decide)) hw hP hD hS dX7_setValue_28
    · have hw := hw.2 c_4
      refine lv_iload hx hb dX7_setValue_16 (lv_at hl 4 rfl) ?_
      refine lv_iconst (v := (0 : Int32)) hx hb dX7_setValue_18 (by decide) ?_
      refine lv_bipush (v := (9 : Int32)) hx hb dX7_setValue_19 (by decide) ?_
      refine zcallS (As := [.int a4, .int (0 : Int32), .int (9 : Int32)]) (rest := []) (wr := (kModel kI uo ur ux ut un uf uw ub uR uk uX ul uT ui uN uF uW uB ubw ubu ubd ucm ucw ucf)) (Wn := fun u => (kModel kI uo ur ux ut un uf uw ub uR uk uX ul uT ui uN uF uW uB ubw ubu ubd ucm ucw ucf)) ⟨hx, hb, hml, hown, hts⟩ (c_X7_in l dC dI kI kA kC _ a4 (0 : Int32) (9 : Int32) _ hw) (va_cwS 3 hts gX7_setValue_X7_in rfl rfl rfl (by decide +kernel) ⟨Nat.le_of_ble_eq_true rfl, Nat.le_of_ble_eq_true rfl⟩) hK hP hD hS hA [] [0, 1, 2, 3, 4, 5, 6, 7] [0, 1, 2, 3, 4, 5, 6, 7] rfl rfl (by decide) (by decide) (by decide) (fun u => rfl) (by decide) rfl hl.1 rfl (Nat.le_of_ble_eq_true rfl) dX7_setValue_21 ⟨Nat.zero_le _, Nat.zero_le _⟩ (fun r_5 u H locs hw hP hD hS => ?_)
      have hP : va_P (dC, dI) vwCl (kModel kI uo ur ux ut un uf uw ub uR uk uX ul uT ui uN uF uW uB ubw ubu ubd ucm ucw ucf) H := hP
      have hD : va_D A (kModel kI uo ur ux ut un uf uw ub uR uk uX ul uT ui uN uF uW uB ubw ubu ubd ucm ucw ucf) := hD
      refine lv_if_ne (tgt := 29) hx hb dX7_setValue_24 (by decide) (fun c_6 => ?_) (fun c_6 => ?_)
      · have hw := hw.1 c_6
        refine lv_aload_n hx hb dX7_setValue_29 rfl (lv_at hl 0 rfl) ?_
        refine zcallV (ci := 7) (q0 := 0) (As := []) (rest := []) (wr := ([] : va_W)) (Wn := fun u => (kModel kI uo ur ux ut un uf uw ub u.1 u.2 uX ul uT ui uN uF uW uB ubw ubu ubd ucm ucw ucf)) ⟨hx, hb, hml, hown, hts⟩ (c_X7_records l dC dI kI kA kC uo ur ux ut un uf uw ub _ uR uk uX ul uT ui uN uF uW uB ubw ubu ubd ucm ucw ucf _ hw) (cwV 0 hts gX7_setValue_X7_records rfl rfl rfl (by decide +kernel) ⟨Nat.le_of_ble_eq_true rfl, Nat.le_of_ble_eq_true rfl⟩) hK hP hD hS hA [0, 1, 2, 3, 4, 5, 6, 7] [] [0, 1, 2, 3, 4, 5, 6, 7] rfl rfl (by decide) (by decide) (by decide) (fun u => rfl) (by decide) rfl rfl rfl rfl hl.1 rfl (Nat.le_of_ble_eq_true rfl) dX7_setValue_30 ⟨Nat.zero_le _, Nat.zero_le _⟩ (fun u H locs hw hP hD hS => ?_)
        obtain ⟨uR_7, uk_8⟩ := u
        have hP : va_P (dC, dI) vwCl (kModel kI uo ur ux ut un uf uw ub uR_7 uk_8 uX ul uT ui uN uF uW uB ubw ubu ubd ucm ucw ucf) H := hP
        have hD : va_D A (kModel kI uo ur ux ut un uf uw ub uR_7 uk_8 uX ul uT ui uN uF uW uB ubw ubu ubd ucm ucw ucf) := hD
        refine lv_iload_n hx hb dX7_setValue_33 rfl (lv_at hl 2 rfl) ?_
        refine lv_istore (lv' := [(5, .int a2), (0, .ref uo), (1, .int a1), (2, .int a2), (3, .int a3), (4, .int a4)]) hx hb dX7_setValue_34 hl (by decide) rfl (fun ls hl => ?_)
        exact hJ36 a2 uR_7 uk_8 hw ls _ _ (lv_sub hl [1, 2, 4, 5, 0] rfl) hP hD hS
      · have hw := hw.2 c_6
        refine lv_iconst (v := (-1 : Int32)) hx hb dX7_setValue_27 (by decide) ?_
        exact hret 28 (-1 : Int32) (uR, uk) _ _ _ (fun h => absurd h (by decide)) hw hP hD hS dX7_setValue_28
-- CakeMarksModel.append(I)I
def Wp_X7_append (uX : Nat → Int32) (ul : Int32) (a1 : Int32) (Z : Int32 → (Nat → Int32) → Int32 → Prop) : Prop := (Wp_X7_in a1 (1 : Int32) (255 : Int32) (fun r_1 => ((¬ r_1 = (0 : Int32) → ((¬ ul = (60 : Int32) → (vp_in ul 60 ∧ (Z (ul + (1 : Int32)) (upd uX ul.toNatClampNeg a1) (ul + (1 : Int32))))) ∧ (ul = (60 : Int32) → (Z (-3 : Int32) uX ul)))) ∧ (r_1 = (0 : Int32) → (Z (-1 : Int32) uX ul)))))
theorem in_X7_append_X7 : ∀ w ∈ u_ws RX7 TX7 16, w ∈ wsX7_append := fun w h => List.mem_cons_of_mem _ (List.mem_append_right _ h)
set_option maxHeartbeats 20000000 in
set_option maxRecDepth 100000 in
theorem c_X7_append (l : Launch) (dC : Nat → ClassId) (dI : Nat → Nat → Nat) (kI kA kC : ClassId) (uo : Nat) (ur : Nat) (ux : Nat) (ut : Nat) (un : Nat) (uf : Nat) (uw : Nat) (ub : Nat) (sz : Nat) (uR : Nat → Int32) (uk : Int32) (uX : Nat → Int32) (ul : Int32) (uT : Nat → Int32) (ui : Int32) (uN : Nat → Int32) (uF : Nat → Int32) (uW : Nat → Int32) (uB : Nat → Int32) (ubw : Int32) (ubu : Int32) (ubd : Int32) (ucm : Int32) (ucw : Int32) (ucf : Int32) (a1 : Int32) (Z : Int32 → (Nat → Int32) → Int32 → Prop) (hw : Wp_X7_append uX ul a1 Z) : zI l yX7_append wsX7_append ({ frames := 1, cells := 0, slots := 0, locals := 22 }) dC dI kI kA kC sz 0 0 [.ref uo, .int a1] (kModel kI uo ur ux ut un uf uw ub uR uk uX ul uT ui uN uF uW uB ubw ubu ubd ucm ucw ucf) (fun (r : Int32) (u : (Nat → Int32) × Int32) => Z r u.1 u.2) (fun (u : (Nat → Int32) × Int32) => (kModel kI uo ur ux ut un uf uw ub uR uk u.1 u.2 uT ui uN uF uW uB ubw ubu ubd ucm ucw ucf)) := by
  refine zI.of (cc := cX7_append) (maxL := 2) (ty := .int) (by decide) rfl (Nat.le_of_ble_eq_true rfl) (Or.inl rfl) ?_
  intro p e s m args below meth c A Q C0 hret ls hl
  obtain ⟨hx, hb, hr, hml, hts, hown, hin, hP, hK, hD, hA, hS⟩ := C0
  have hown : s.vm.findClass RX7 = some m.cls := hown
  have hl : lv_has ls 2 [(0, .ref uo), (1, .int a1)] := hl
  unfold Wp_X7_append at hw
  refine lv_iload_n hx hb dX7_append_0 rfl (lv_at hl 1 rfl) ?_
  refine lv_iconst (v := (1 : Int32)) hx hb dX7_append_1 (by decide) ?_
  refine lv_sipush (v := (255 : Int32)) hx hb dX7_append_2 (by decide) ?_
  refine zcallS (As := [.int a1, .int (1 : Int32), .int (255 : Int32)]) (rest := []) (wr := (kModel kI uo ur ux ut un uf uw ub uR uk uX ul uT ui uN uF uW uB ubw ubu ubd ucm ucw ucf)) (Wn := fun u => (kModel kI uo ur ux ut un uf uw ub uR uk uX ul uT ui uN uF uW uB ubw ubu ubd ucm ucw ucf)) ⟨hx, hb, hml, hown, hts⟩ (c_X7_in l dC dI kI kA kC _ a1 (1 : Int32) (255 : Int32) _ hw) (va_cwS 3 hts gX7_append_X7_in rfl rfl rfl (by decide +kernel) ⟨Nat.le_of_ble_eq_true rfl, Nat.le_of_ble_eq_true rfl⟩) hK hP hD hS hA [] [0, 1, 2, 3, 4, 5, 6, 7] [0, 1, 2, 3, 4, 5, 6, 7] rfl rfl (by decide) (by decide) (by decide) (fun u => rfl) (by decide) rfl hl.1 rfl (Nat.le_of_ble_eq_true rfl) dX7_append_5 ⟨Nat.zero_le _, Nat.zero_le _⟩ (fun r_1 u H locs hw hP hD hS => ?_)
  have hP : va_P (dC, dI) vwCl (kModel kI uo ur ux ut un uf uw ub uR uk uX ul uT ui uN uF uW uB ubw ubu ubd ucm ucw ucf) H := hP
  have hD : va_D A (kModel kI uo ur ux ut un uf uw ub uR uk uX ul uT ui uN uF uW uB ubw ubu ubd ucm ucw ucf) := hD
  refine lv_if_ne (tgt := 13) hx hb dX7_append_8 (by decide) (fun c_2 => ?_) (fun c_2 => ?_)
  · have hw := hw.1 c_2
    refine lv_aload_n hx hb dX7_append_13 rfl (lv_at hl 0 rfl) ?_
    refine va_get (D := (dC, dI)) (ci := 7) (v := .int ul) (C := RX7) (T := TX7) (N := 16) hx hb hts in_X7_append_X7 hown hK hP 0 rfl rfl 3 (by decide) (hts (.fieldLink RX7 69 "CakeMarksModel" "length" "I") (List.mem_of_getElem? (i := 1) rfl)) (fun _ h9 => h9) rfl dX7_append_14 ?_
    refine lv_bipush (v := (60 : Int32)) hx hb dX7_append_17 (by decide) ?_
    refine lv_icmp_ne (tgt := 25) hx hb dX7_append_19 (by decide) (fun c_3 => ?_) (fun c_3 => ?_)
    · have hw := hw.1 c_3
      refine lv_aload_n hx hb dX7_append_25 rfl (lv_at hl 0 rfl) ?_
      refine va_get (D := (dC, dI)) (ci := 7) (v := .ref ux) (C := RX7) (T := TX7) (N := 16) hx hb hts in_X7_append_X7 hown hK hP 0 rfl rfl 2 (by decide) (hts (.fieldLink RX7 13 "CakeMarksModel" "text" "[I") (List.mem_of_getElem? (i := 2) rfl)) (fun _ h9 => h9) rfl dX7_append_26 ?_
      refine lv_aload_n hx hb dX7_append_29 rfl (lv_at hl 0 rfl) ?_
      refine va_get (D := (dC, dI)) (ci := 7) (v := .int ul) (C := RX7) (T := TX7) (N := 16) hx hb hts in_X7_append_X7 hown hK hP 0 rfl rfl 3 (by decide) (hts (.fieldLink RX7 69 "CakeMarksModel" "length" "I") (List.mem_of_getElem? (i := 1) rfl)) (fun _ h9 => h9) rfl dX7_append_30 ?_
      refine lv_iload_n hx hb dX7_append_33 rfl (lv_at hl 1 rfl) ?_
      obtain ⟨h_4, hw⟩ := hw
      refine va_iast hx hb hK hP hD hS 2 0 rfl rfl h_4 dX7_append_34 (fun H locs hP hD hS => ?_)
      have hP : va_P (dC, dI) vwCl (kModel kI uo ur ux ut un uf uw ub uR uk (upd uX ul.toNatClampNeg a1) ul uT ui uN uF uW uB ubw ubu ubd ucm ucw ucf) H := hP
      have hD : va_D A (kModel kI uo ur ux ut un uf uw ub uR uk (upd uX ul.toNatClampNeg a1) ul uT ui uN uF uW uB ubw ubu ubd ucm ucw ucf) := hD
      refine lv_aload_n hx hb dX7_append_35 rfl (lv_at hl 0 rfl) ?_
      refine lv_dup hx hb dX7_append_36 rfl ?_
      refine va_get (D := (dC, dI)) (ci := 7) (v := .int ul) (C := RX7) (T := TX7) (N := 16) hx hb hts in_X7_append_X7 hown hK hP 0 rfl rfl 3 (by decide) (hts (.fieldLink RX7 69 "CakeMarksModel" "length" "I") (List.mem_of_getElem? (i := 1) rfl)) (fun _ h9 => h9) rfl dX7_append_37 ?_
      refine lv_iconst (v := (1 : Int32)) hx hb dX7_append_40 (by decide) ?_
      refine lv_iadd hx hb dX7_append_41 ?_
      refine va_put (D := (dC, dI)) (ci := 7) (v := .int (ul + (1 : Int32))) (ty := .int) (C := RX7) (T := TX7) (N := 16) hx hb hts in_X7_append_X7 tyX7 tyX7_ok nmX7 hown hK hP hD hS 0 rfl rfl 3 (by decide) (hts (.fieldLink RX7 69 "CakeMarksModel" "length" "I") (List.mem_of_getElem? (i := 1) rfl)) (fun _ h9 => h9) rfl (by decide +kernel) rfl rfl (Nat.le_of_ble_eq_true rfl) dX7_append_42 (fun H locs hP hD hS => ?_)
      have hP : va_P (dC, dI) vwCl (kModel kI uo ur ux ut un uf uw ub uR uk (upd uX ul.toNatClampNeg a1) (ul + (1 : Int32)) uT ui uN uF uW uB ubw ubu ubd ucm ucw ucf) H := hP
      have hD : va_D A (kModel kI uo ur ux ut un uf uw ub uR uk (upd uX ul.toNatClampNeg a1) (ul + (1 : Int32)) uT ui uN uF uW uB ubw ubu ubd ucm ucw ucf) := hD
      refine lv_aload_n hx hb dX7_append_45 rfl (lv_at hl 0 rfl) ?_
      refine va_get (D := (dC, dI)) (ci := 7) (v := .int (ul + (1 : Int32))) (C := RX7) (T := TX7) (N := 16) hx hb hts in_X7_append_X7 hown hK hP 0 rfl rfl 3 (by decide) (hts (.fieldLink RX7 69 "CakeMarksModel" "length" "I") (List.mem_of_getElem? (i := 1) rfl)) (fun _ h9 => h9) rfl dX7_append_46 ?_
      exact hret 49 (ul + (1 : Int32)) ((upd uX ul.toNatClampNeg a1), (ul + (1 : Int32))) _ _ _ (fun h => absurd h (by decide)) hw hP hD hS dX7_append_49
    · have hw := hw.2 c_3
      refine lv_bipush (v := (-3 : Int32)) hx hb dX7_append_22 (by decide) ?_
      exact hret 24 (-3 : Int32) (uX, ul) _ _ _ (fun h => absurd h (by decide)) hw hP hD hS dX7_append_24
  · have hw := hw.2 c_2
    refine lv_iconst (v := (-1 : Int32)) hx hb dX7_append_11 (by decide) ?_
    exact hret 12 (-1 : Int32) (uX, ul) _ _ _ (fun h => absurd h (by decide)) hw hP hD hS dX7_append_12
-- CakeMarksModel.clearText()I
def Wp_X7_clearText (ul : Int32) (Z : Int32 → Int32 → Prop) : Prop := (Z ul (0 : Int32))
theorem in_X7_clearText_X7 : ∀ w ∈ u_ws RX7 TX7 16, w ∈ wsX7_clearText := fun w h => List.mem_cons_of_mem _ (List.mem_append_right _ h)
set_option maxHeartbeats 20000000 in
set_option maxRecDepth 100000 in
theorem c_X7_clearText (l : Launch) (dC : Nat → ClassId) (dI : Nat → Nat → Nat) (kI kA kC : ClassId) (uo : Nat) (ur : Nat) (ux : Nat) (ut : Nat) (un : Nat) (uf : Nat) (uw : Nat) (ub : Nat) (sz : Nat) (uR : Nat → Int32) (uk : Int32) (uX : Nat → Int32) (ul : Int32) (uT : Nat → Int32) (ui : Int32) (uN : Nat → Int32) (uF : Nat → Int32) (uW : Nat → Int32) (uB : Nat → Int32) (ubw : Int32) (ubu : Int32) (ubd : Int32) (ucm : Int32) (ucw : Int32) (ucf : Int32) (Z : Int32 → Int32 → Prop) (hw : Wp_X7_clearText ul Z) : zI l yX7_clearText wsX7_clearText ({ frames := 0, cells := 0, slots := 0, locals := 0 }) dC dI kI kA kC sz 0 0 [.ref uo] (kModel kI uo ur ux ut un uf uw ub uR uk uX ul uT ui uN uF uW uB ubw ubu ubd ucm ucw ucf) (fun (r : Int32) (u : Int32) => Z r u) (fun (u : Int32) => (kModel kI uo ur ux ut un uf uw ub uR uk uX u uT ui uN uF uW uB ubw ubu ubd ucm ucw ucf)) := by
  refine zI.of (cc := cX7_clearText) (maxL := 2) (ty := .int) (by decide) rfl (Nat.le_of_ble_eq_true rfl) (Or.inl rfl) ?_
  intro p e s m args below meth c A Q C0 hret ls hl
  obtain ⟨hx, hb, hr, hml, hts, hown, hin, hP, hK, hD, hA, hS⟩ := C0
  have hown : s.vm.findClass RX7 = some m.cls := hown
  have hl : lv_has ls 2 [(0, .ref uo)] := hl
  unfold Wp_X7_clearText at hw
  refine lv_aload_n hx hb dX7_clearText_0 rfl (lv_at hl 0 rfl) ?_
  refine va_get (D := (dC, dI)) (ci := 7) (v := .int ul) (C := RX7) (T := TX7) (N := 16) hx hb hts in_X7_clearText_X7 hown hK hP 0 rfl rfl 3 (by decide) (hts (.fieldLink RX7 69 "CakeMarksModel" "length" "I") (List.mem_of_getElem? (i := 1) rfl)) (fun _ h9 => h9) rfl dX7_clearText_1 ?_
  refine lv_istore_n (lv' := [(1, .int ul), (0, .ref uo)]) hx hb dX7_clearText_4 rfl hl (by decide) rfl (fun ls hl => ?_)
  refine lv_aload_n hx hb dX7_clearText_5 rfl (lv_at hl 1 rfl) ?_
  refine lv_iconst (v := (0 : Int32)) hx hb dX7_clearText_6 (by decide) ?_
  refine va_put (D := (dC, dI)) (ci := 7) (v := .int (0 : Int32)) (ty := .int) (C := RX7) (T := TX7) (N := 16) hx hb hts in_X7_clearText_X7 tyX7 tyX7_ok nmX7 hown hK hP hD hS 0 rfl rfl 3 (by decide) (hts (.fieldLink RX7 69 "CakeMarksModel" "length" "I") (List.mem_of_getElem? (i := 1) rfl)) (fun _ h9 => h9) rfl (by decide +kernel) rfl rfl (Nat.le_of_ble_eq_true rfl) dX7_clearText_7 (fun H locs hP hD hS => ?_)
  have hP : va_P (dC, dI) vwCl (kModel kI uo ur ux ut un uf uw ub uR uk uX (0 : Int32) uT ui uN uF uW uB ubw ubu ubd ucm ucw ucf) H := hP
  have hD : va_D A (kModel kI uo ur ux ut un uf uw ub uR uk uX (0 : Int32) uT ui uN uF uW uB ubw ubu ubd ucm ucw ucf) := hD
  refine lv_iload_n hx hb dX7_clearText_10 rfl (lv_at hl 0 rfl) ?_
  exact hret 11 ul (0 : Int32) _ _ _ (fun h => absurd h (by decide)) hw hP hD hS dX7_clearText_11
-- CakeMarksModel.isDigit(II)Z
def Wp_X7_isDigit (uX : Nat → Int32) (ul : Int32) (a1 : Int32) (a2 : Int32) (Z : Int32 → Prop) : Prop := ((ul ≤ a1 → (Z (0 : Int32))) ∧ (¬ ul ≤ a1 → (vp_in a1 60 ∧ (Wp_X7_in (uX a1.toNatClampNeg) ((48 : Int32) + a2) (57 : Int32) (fun r_3 => ((r_3 = (0 : Int32) → (Z (0 : Int32))) ∧ (¬ r_3 = (0 : Int32) → (Z (1 : Int32)))))))))
theorem in_X7_isDigit_X7 : ∀ w ∈ u_ws RX7 TX7 16, w ∈ wsX7_isDigit := fun w h => List.mem_cons_of_mem _ (List.mem_append_right _ h)
set_option maxHeartbeats 20000000 in
set_option maxRecDepth 100000 in
theorem c_X7_isDigit (l : Launch) (dC : Nat → ClassId) (dI : Nat → Nat → Nat) (kI kA kC : ClassId) (uo : Nat) (ur : Nat) (ux : Nat) (ut : Nat) (un : Nat) (uf : Nat) (uw : Nat) (ub : Nat) (sz : Nat) (uR : Nat → Int32) (uk : Int32) (uX : Nat → Int32) (ul : Int32) (uT : Nat → Int32) (ui : Int32) (uN : Nat → Int32) (uF : Nat → Int32) (uW : Nat → Int32) (uB : Nat → Int32) (ubw : Int32) (ubu : Int32) (ubd : Int32) (ucm : Int32) (ucw : Int32) (ucf : Int32) (a1 : Int32) (a2 : Int32) (Z : Int32 → Prop) (hw : Wp_X7_isDigit uX ul a1 a2 Z) : zI l yX7_isDigit wsX7_isDigit ({ frames := 1, cells := 0, slots := 0, locals := 22 }) dC dI kI kA kC sz 0 0 [.ref uo, .int a1, .int a2] (kModel kI uo ur ux ut un uf uw ub uR uk uX ul uT ui uN uF uW uB ubw ubu ubd ucm ucw ucf) (fun (r : Int32) (u : Unit) => Z r ) (fun (u : Unit) => (kModel kI uo ur ux ut un uf uw ub uR uk uX ul uT ui uN uF uW uB ubw ubu ubd ucm ucw ucf)) := by
  refine zI.of (cc := cX7_isDigit) (maxL := 3) (ty := .boolean) (by decide) rfl (Nat.le_of_ble_eq_true rfl) (Or.inr rfl) ?_
  intro p e s m args below meth c A Q C0 hret ls hl
  obtain ⟨hx, hb, hr, hml, hts, hown, hin, hP, hK, hD, hA, hS⟩ := C0
  have hown : s.vm.findClass RX7 = some m.cls := hown
  have hl : lv_has ls 3 [(0, .ref uo), (1, .int a1), (2, .int a2)] := hl
  unfold Wp_X7_isDigit at hw
  refine lv_iload_n hx hb dX7_isDigit_0 rfl (lv_at hl 1 rfl) ?_
  refine lv_aload_n hx hb dX7_isDigit_1 rfl (lv_at hl 0 rfl) ?_
  refine va_get (D := (dC, dI)) (ci := 7) (v := .int ul) (C := RX7) (T := TX7) (N := 16) hx hb hts in_X7_isDigit_X7 hown hK hP 0 rfl rfl 3 (by decide) (hts (.fieldLink RX7 69 "CakeMarksModel" "length" "I") (List.mem_of_getElem? (i := 1) rfl)) (fun _ h9 => h9) rfl dX7_isDigit_2 ?_
  refine lv_icmp_ge (tgt := 30) hx hb dX7_isDigit_5 (by decide) (fun c_1 => ?_) (fun c_1 => ?_)
  · have hw := hw.1 c_1
    refine lv_iconst (v := (0 : Int32)) hx hb dX7_isDigit_30 (by decide) ?_
    exact hret 31 (0 : Int32) () _ _ _ (fun _ => rfl) hw hP hD hS dX7_isDigit_31
  · have hw := hw.2 c_1
    refine lv_aload_n hx hb dX7_isDigit_8 rfl (lv_at hl 0 rfl) ?_
    refine va_get (D := (dC, dI)) (ci := 7) (v := .ref ux) (C := RX7) (T := TX7) (N := 16) hx hb hts in_X7_isDigit_X7 hown hK hP 0 rfl rfl 2 (by decide) (hts (.fieldLink RX7 13 "CakeMarksModel" "text" "[I") (List.mem_of_getElem? (i := 2) rfl)) (fun _ h9 => h9) rfl dX7_isDigit_9 ?_
    refine lv_iload_n hx hb dX7_isDigit_12 rfl (lv_at hl 1 rfl) ?_
    obtain ⟨h_2, hw⟩ := hw
    refine va_iald hx hb hK hP 2 0 rfl rfl h_2 dX7_isDigit_13 ?_
    refine lv_bipush (v := (48 : Int32)) hx hb dX7_isDigit_14 (by decide) ?_
    refine lv_iload_n hx hb dX7_isDigit_16 rfl (lv_at hl 2 rfl) ?_
    refine lv_iadd hx hb dX7_isDigit_17 ?_
    refine lv_bipush (v := (57 : Int32)) hx hb dX7_isDigit_18 (by decide) ?_
    refine zcallS (As := [.int (uX a1.toNatClampNeg), .int ((48 : Int32) + a2), .int (57 : Int32)]) (rest := []) (wr := (kModel kI uo ur ux ut un uf uw ub uR uk uX ul uT ui uN uF uW uB ubw ubu ubd ucm ucw ucf)) (Wn := fun u => (kModel kI uo ur ux ut un uf uw ub uR uk uX ul uT ui uN uF uW uB ubw ubu ubd ucm ucw ucf)) ⟨hx, hb, hml, hown, hts⟩ (c_X7_in l dC dI kI kA kC _ (uX a1.toNatClampNeg) ((48 : Int32) + a2) (57 : Int32) _ hw) (va_cwS 3 hts gX7_isDigit_X7_in rfl rfl rfl (by decide +kernel) ⟨Nat.le_of_ble_eq_true rfl, Nat.le_of_ble_eq_true rfl⟩) hK hP hD hS hA [] [0, 1, 2, 3, 4, 5, 6, 7] [0, 1, 2, 3, 4, 5, 6, 7] rfl rfl (by decide) (by decide) (by decide) (fun u => rfl) (by decide) rfl hl.1 rfl (Nat.le_of_ble_eq_true rfl) dX7_isDigit_20 ⟨Nat.zero_le _, Nat.zero_le _⟩ (fun r_3 u H locs hw hP hD hS => ?_)
    have hP : va_P (dC, dI) vwCl (kModel kI uo ur ux ut un uf uw ub uR uk uX ul uT ui uN uF uW uB ubw ubu ubd ucm ucw ucf) H := hP
    have hD : va_D A (kModel kI uo ur ux ut un uf uw ub uR uk uX ul uT ui uN uF uW uB ubw ubu ubd ucm ucw ucf) := hD
    refine lv_if_eq (tgt := 30) hx hb dX7_isDigit_23 (by decide) (fun c_4 => ?_) (fun c_4 => ?_)
    · have hw := hw.1 c_4
      refine lv_iconst (v := (0 : Int32)) hx hb dX7_isDigit_30 (by decide) ?_
      exact hret 31 (0 : Int32) () _ _ _ (fun _ => rfl) hw hP hD hS dX7_isDigit_31
    · have hw := hw.2 c_4
      refine lv_iconst (v := (1 : Int32)) hx hb dX7_isDigit_26 (by decide) ?_
      refine lv_goto (tgt := 31) hx hb dX7_isDigit_27 (by decide) ?_
      exact hret 31 (1 : Int32) () _ _ _ (fun _ => rfl) hw hP hD hS dX7_isDigit_31
