-- CakeMarksModel.exchange()I
def B_X7_exchange_18 (Z : Int32 → (Nat → Int32) → Int32 → (Nat → Int32) → Prop) (J18 : Int32 → Int32 → (Nat → Int32) → Int32 → (Nat → Int32) → Prop) (J36 : Int32 → Int32 → Int32 → Int32 → (Nat → Int32) → Int32 → (Nat → Int32) → Prop) (x1 : Int32) (x2 : Int32) (uR : Nat → Int32) (uk : Int32) (uN : Nat → Int32) : Prop := (((24 : Int32) ≤ x2 → (Z x1 uR uk uN)) ∧ (¬ (24 : Int32) ≤ x2 → (vp_in ((1 : Int32) + x2) 847 ∧ (J36 x1 x2 (uR ((1 : Int32) + x2).toNatClampNeg) (0 : Int32) uR uk uN))))
def B_X7_exchange_36 (Z : Int32 → (Nat → Int32) → Int32 → (Nat → Int32) → Prop) (J18 : Int32 → Int32 → (Nat → Int32) → Int32 → (Nat → Int32) → Prop) (J36 : Int32 → Int32 → Int32 → Int32 → (Nat → Int32) → Int32 → (Nat → Int32) → Prop) (x1 : Int32) (x2 : Int32) (x3 : Int32) (x4 : Int32) (uR : Nat → Int32) (uk : Int32) (uN : Nat → Int32) : Prop := ((x1 ≤ x4 → (J18 x1 (x2 + (1 : Int32)) uR uk uN)) ∧ (¬ x1 ≤ x4 → (¬ x1 = (0 : Int32) ∧ (vp_in ((x4 + (1 : Int32)) - (x4 + (1 : Int32)) / x1 * x1) 4 ∧ ((¬ x3 = (uN ((x4 + (1 : Int32)) - (x4 + (1 : Int32)) / x1 * x1).toNatClampNeg) → (vp_in ((1 : Int32) + x2) 847 ∧ (J36 x1 x2 x3 (x4 + (1 : Int32)) (upd uR ((1 : Int32) + x2).toNatClampNeg (uR ((1 : Int32) + x2).toNatClampNeg)) uk uN))) ∧ (x3 = (uN ((x4 + (1 : Int32)) - (x4 + (1 : Int32)) / x1 * x1).toNatClampNeg) → (vp_in x4 4 ∧ (vp_in ((1 : Int32) + x2) 847 ∧ (J36 x1 x2 x3 (x4 + (1 : Int32)) (upd uR ((1 : Int32) + x2).toNatClampNeg (uN x4.toNatClampNeg)) uk uN)))))))))
def Wp_X7_exchange_18 (Z : Int32 → (Nat → Int32) → Int32 → (Nat → Int32) → Prop) (x1 : Int32) (x2 : Int32) (uR : Nat → Int32) (uk : Int32) (uN : Nat → Int32) : Prop := ∀ (I18 : Int32 → Int32 → (Nat → Int32) → Int32 → (Nat → Int32) → Prop) (I36 : Int32 → Int32 → Int32 → Int32 → (Nat → Int32) → Int32 → (Nat → Int32) → Prop), (∀ (J18 : Int32 → Int32 → (Nat → Int32) → Int32 → (Nat → Int32) → Prop) (J36 : Int32 → Int32 → Int32 → Int32 → (Nat → Int32) → Int32 → (Nat → Int32) → Prop), (∀ (x1 : Int32) (x2 : Int32) (uR : Nat → Int32) (uk : Int32) (uN : Nat → Int32), J18 x1 x2 uR uk uN → I18 x1 x2 uR uk uN) → (∀ (x1 : Int32) (x2 : Int32) (x3 : Int32) (x4 : Int32) (uR : Nat → Int32) (uk : Int32) (uN : Nat → Int32), J36 x1 x2 x3 x4 uR uk uN → I36 x1 x2 x3 x4 uR uk uN) → ∀ (x1 : Int32) (x2 : Int32) (uR : Nat → Int32) (uk : Int32) (uN : Nat → Int32), B_X7_exchange_18 Z J18 J36 x1 x2 uR uk uN → I18 x1 x2 uR uk uN) → (∀ (J18 : Int32 → Int32 → (Nat → Int32) → Int32 → (Nat → Int32) → Prop) (J36 : Int32 → Int32 → Int32 → Int32 → (Nat → Int32) → Int32 → (Nat → Int32) → Prop), (∀ (x1 : Int32) (x2 : Int32) (uR : Nat → Int32) (uk : Int32) (uN : Nat → Int32), J18 x1 x2 uR uk uN → I18 x1 x2 uR uk uN) → (∀ (x1 : Int32) (x2 : Int32) (x3 : Int32) (x4 : Int32) (uR : Nat → Int32) (uk : Int32) (uN : Nat → Int32), J36 x1 x2 x3 x4 uR uk uN → I36 x1 x2 x3 x4 uR uk uN) → ∀ (x1 : Int32) (x2 : Int32) (x3 : Int32) (x4 : Int32) (uR : Nat → Int32) (uk : Int32) (uN : Nat → Int32), B_X7_exchange_36 Z J18 J36 x1 x2 x3 x4 uR uk uN → I36 x1 x2 x3 x4 uR uk uN) → I18 x1 x2 uR uk uN
def Wp_X7_exchange_36 (Z : Int32 → (Nat → Int32) → Int32 → (Nat → Int32) → Prop) (x1 : Int32) (x2 : Int32) (x3 : Int32) (x4 : Int32) (uR : Nat → Int32) (uk : Int32) (uN : Nat → Int32) : Prop := ∀ (I18 : Int32 → Int32 → (Nat → Int32) → Int32 → (Nat → Int32) → Prop) (I36 : Int32 → Int32 → Int32 → Int32 → (Nat → Int32) → Int32 → (Nat → Int32) → Prop), (∀ (J18 : Int32 → Int32 → (Nat → Int32) → Int32 → (Nat → Int32) → Prop) (J36 : Int32 → Int32 → Int32 → Int32 → (Nat → Int32) → Int32 → (Nat → Int32) → Prop), (∀ (x1 : Int32) (x2 : Int32) (uR : Nat → Int32) (uk : Int32) (uN : Nat → Int32), J18 x1 x2 uR uk uN → I18 x1 x2 uR uk uN) → (∀ (x1 : Int32) (x2 : Int32) (x3 : Int32) (x4 : Int32) (uR : Nat → Int32) (uk : Int32) (uN : Nat → Int32), J36 x1 x2 x3 x4 uR uk uN → I36 x1 x2 x3 x4 uR uk uN) → ∀ (x1 : Int32) (x2 : Int32) (uR : Nat → Int32) (uk : Int32) (uN : Nat → Int32), B_X7_exchange_18 Z J18 J36 x1 x2 uR uk uN → I18 x1 x2 uR uk uN) → (∀ (J18 : Int32 → Int32 → (Nat → Int32) → Int32 → (Nat → Int32) → Prop) (J36 : Int32 → Int32 → Int32 → Int32 → (Nat → Int32) → Int32 → (Nat → Int32) → Prop), (∀ (x1 : Int32) (x2 : Int32) (uR : Nat → Int32) (uk : Int32) (uN : Nat → Int32), J18 x1 x2 uR uk uN → I18 x1 x2 uR uk uN) → (∀ (x1 : Int32) (x2 : Int32) (x3 : Int32) (x4 : Int32) (uR : Nat → Int32) (uk : Int32) (uN : Nat → Int32), J36 x1 x2 x3 x4 uR uk uN → I36 x1 x2 x3 x4 uR uk uN) → ∀ (x1 : Int32) (x2 : Int32) (x3 : Int32) (x4 : Int32) (uR : Nat → Int32) (uk : Int32) (uN : Nat → Int32), B_X7_exchange_36 Z J18 J36 x1 x2 x3 x4 uR uk uN → I36 x1 x2 x3 x4 uR uk uN) → I36 x1 x2 x3 x4 uR uk uN
theorem F_X7_exchange_18 (Z : Int32 → (Nat → Int32) → Int32 → (Nat → Int32) → Prop) (x1 : Int32) (x2 : Int32) (uR : Nat → Int32) (uk : Int32) (uN : Nat → Int32) (h : B_X7_exchange_18 Z (Wp_X7_exchange_18 Z) (Wp_X7_exchange_36 Z) x1 x2 uR uk uN) : Wp_X7_exchange_18 Z x1 x2 uR uk uN := fun I18 I36 h18 h36 => h18 _ _ (fun x1 x2 uR uk uN hx => hx I18 I36 h18 h36) (fun x1 x2 x3 x4 uR uk uN hx => hx I18 I36 h18 h36) x1 x2 uR uk uN h
theorem F_X7_exchange_36 (Z : Int32 → (Nat → Int32) → Int32 → (Nat → Int32) → Prop) (x1 : Int32) (x2 : Int32) (x3 : Int32) (x4 : Int32) (uR : Nat → Int32) (uk : Int32) (uN : Nat → Int32) (h : B_X7_exchange_36 Z (Wp_X7_exchange_18 Z) (Wp_X7_exchange_36 Z) x1 x2 x3 x4 uR uk uN) : Wp_X7_exchange_36 Z x1 x2 x3 x4 uR uk uN := fun I18 I36 h18 h36 => h36 _ _ (fun x1 x2 uR uk uN hx => hx I18 I36 h18 h36) (fun x1 x2 x3 x4 uR uk uN hx => hx I18 I36 h18 h36) x1 x2 x3 x4 uR uk uN h
def Wp_X7_exchange (uR : Nat → Int32) (uk : Int32) (uN : Nat → Int32) (Z : Int32 → (Nat → Int32) → Int32 → (Nat → Int32) → Prop) : Prop := (Wp_X7_layRing uR uN (fun r_2 uN_1 => ((¬ r_2 = (0 : Int32) → (Wp_X7_records uR uk (fun uR_4 uk_5 => ((Wp_X7_exchange_18 Z) r_2 (0 : Int32) uR_4 uk_5 uN_1)))) ∧ (r_2 = (0 : Int32) → (Z (-2 : Int32) uR uk uN_1)))))
theorem in_X7_exchange_X7 : ∀ w ∈ u_ws RX7 TX7 16, w ∈ wsX7_exchange := fun w h => List.mem_cons_of_mem _ (List.mem_append_right _ h)
set_option maxHeartbeats 20000000 in
set_option maxRecDepth 100000 in
theorem c_X7_exchange (l : Launch) (dC : Nat → ClassId) (dI : Nat → Nat → Nat) (kI kA kC : ClassId) (uo : Nat) (ur : Nat) (ux : Nat) (ut : Nat) (un : Nat) (uf : Nat) (uw : Nat) (ub : Nat) (sz : Nat) (uR : Nat → Int32) (uk : Int32) (uX : Nat → Int32) (ul : Int32) (uT : Nat → Int32) (ui : Int32) (uN : Nat → Int32) (uF : Nat → Int32) (uW : Nat → Int32) (uB : Nat → Int32) (ubw : Int32) (ubu : Int32) (ubd : Int32) (ucm : Int32) (ucw : Int32) (ucf : Int32) (Z : Int32 → (Nat → Int32) → Int32 → (Nat → Int32) → Prop) (hw : Wp_X7_exchange uR uk uN Z) : zI l yX7_exchange wsX7_exchange ({ frames := 5, cells := 0, slots := 0, locals := 119 }) dC dI kI kA kC sz 0 0 [.ref uo] (kModel kI uo ur ux ut un uf uw ub uR uk uX ul uT ui uN uF uW uB ubw ubu ubd ucm ucw ucf) (fun (r : Int32) (u : (Nat → Int32) × Int32 × (Nat → Int32)) => Z r u.1 u.2.1 u.2.2) (fun (u : (Nat → Int32) × Int32 × (Nat → Int32)) => (kModel kI uo ur ux ut un uf uw ub u.1 u.2.1 uX ul uT ui u.2.2 uF uW uB ubw ubu ubd ucm ucw ucf)) := by
  refine zI.of (cc := cX7_exchange) (maxL := 5) (ty := .int) (by decide) rfl (Nat.le_of_ble_eq_true rfl) (Or.inl rfl) ?_
  intro p e s m args below meth c A Q C0 hret ls hl
  obtain ⟨hx, hb, hr, hml, hts, hown, hin, hP, hK, hD, hA, hS⟩ := C0
  have hown : s.vm.findClass RX7 = some m.cls := hown
  have hl : lv_has ls 5 [(0, .ref uo)] := hl
  have key : ∀ (J18 : Int32 → Int32 → (Nat → Int32) → Int32 → (Nat → Int32) → Prop) (J36 : Int32 → Int32 → Int32 → Int32 → (Nat → Int32) → Int32 → (Nat → Int32) → Prop) (hJ18 : ∀ (x1 : Int32) (x2 : Int32) (uR : Nat → Int32) (uk : Int32) (uN : Nat → Int32), J18 x1 x2 uR uk uN → ∀ (ls : Array Slot) (H : Heap) (locs : List Loc), lv_has ls 5 [(0, .ref uo), (1, .int x1), (2, .int x2)] → va_P (dC, dI) vwCl (kModel kI uo ur ux ut un uf uw ub uR uk uX ul uT ui uN uF uW uB ubw ubu ubd ucm ucw ucf) H → va_D A (kModel kI uo ur ux ut un uf uw ub uR uk uX ul uT ui uN uF uW uB ubw ubu ubd ucm ucw ucf) → va_S A s.heap H locs → W p l e ({ frames := 5, cells := 0, slots := 0, locals := 119 }) s m args below meth c H locs 0 0 Q (F0 m 18 ls [])) (hJ36 : ∀ (x1 : Int32) (x2 : Int32) (x3 : Int32) (x4 : Int32) (uR : Nat → Int32) (uk : Int32) (uN : Nat → Int32), J36 x1 x2 x3 x4 uR uk uN → ∀ (ls : Array Slot) (H : Heap) (locs : List Loc), lv_has ls 5 [(0, .ref uo), (1, .int x1), (2, .int x2), (3, .int x3), (4, .int x4)] → va_P (dC, dI) vwCl (kModel kI uo ur ux ut un uf uw ub uR uk uX ul uT ui uN uF uW uB ubw ubu ubd ucm ucw ucf) H → va_D A (kModel kI uo ur ux ut un uf uw ub uR uk uX ul uT ui uN uF uW uB ubw ubu ubd ucm ucw ucf) → va_S A s.heap H locs → W p l e ({ frames := 5, cells := 0, slots := 0, locals := 119 }) s m args below meth c H locs 0 0 Q (F0 m 36 ls [])), (∀ (x1 : Int32) (x2 : Int32) (uR : Nat → Int32) (uk : Int32) (uN : Nat → Int32), B_X7_exchange_18 Z J18 J36 x1 x2 uR uk uN → ∀ (ls : Array Slot) (H : Heap) (locs : List Loc), lv_has ls 5 [(0, .ref uo), (1, .int x1), (2, .int x2)] → va_P (dC, dI) vwCl (kModel kI uo ur ux ut un uf uw ub uR uk uX ul uT ui uN uF uW uB ubw ubu ubd ucm ucw ucf) H → va_D A (kModel kI uo ur ux ut un uf uw ub uR uk uX ul uT ui uN uF uW uB ubw ubu ubd ucm ucw ucf) → va_S A s.heap H locs → W p l e ({ frames := 5, cells := 0, slots := 0, locals := 119 }) s m args below meth c H locs 0 0 Q (F0 m 18 ls [])) ∧ (∀ (x1 : Int32) (x2 : Int32) (x3 : Int32) (x4 : Int32) (uR : Nat → Int32) (uk : Int32) (uN : Nat → Int32), B_X7_exchange_36 Z J18 J36 x1 x2 x3 x4 uR uk uN → ∀ (ls : Array Slot) (H : Heap) (locs : List Loc), lv_has ls 5 [(0, .ref uo), (1, .int x1), (2, .int x2), (3, .int x3), (4, .int x4)] → va_P (dC, dI) vwCl (kModel kI uo ur ux ut un uf uw ub uR uk uX ul uT ui uN uF uW uB ubw ubu ubd ucm ucw ucf) H → va_D A (kModel kI uo ur ux ut un uf uw ub uR uk uX ul uT ui uN uF uW uB ubw ubu ubd ucm ucw ucf) → va_S A s.heap H locs → W p l e ({ frames := 5, cells := 0, slots := 0, locals := 119 }) s m args below meth c H locs 0 0 Q (F0 m 36 ls [])) := by
    intro J18 J36 hJ18 hJ36
    refine ⟨?_, ?_⟩
    · intro x1 x2 uR uk uN hw ls H locs hl hP hD hS
      unfold B_X7_exchange_18 at hw
      refine lv_iload_n hx hb dX7_exchange_18 rfl (lv_at hl 2 rfl) ?_
      refine lv_bipush (v := (24 : Int32)) hx hb dX7_exchange_19 (by decide) ?_
      refine lv_icmp_ge (tgt := 95) hx hb dX7_exchange_21 (by decide) (fun c_6 => ?_) (fun c_6 => ?_)
      · have hw := hw.1 c_6
        refine lv_iload_n hx hb dX7_exchange_95 rfl (lv_at hl 1 rfl) ?_
        exact hret 96 x1 (uR, uk, uN) _ _ _ (fun h => absurd h (by decide)) hw hP hD hS dX7_exchange_96
      · have hw := hw.2 c_6
        refine lv_aload_n hx hb dX7_exchange_24 rfl (lv_at hl 0 rfl) ?_
        refine va_get (D := (dC, dI)) (ci := 7) (v := .ref ur) (C := RX7) (T := TX7) (N := 16) hx hb hts in_X7_exchange_X7 hown hK hP 0 rfl rfl 0 (by decide) (hts (.fieldLink RX7 7 "CakeMarksModel" "row" "[I") (List.mem_of_getElem? (i := 1) rfl)) (fun _ h9 => h9) rfl dX7_exchange_25 ?_
        refine lv_iconst (v := (1 : Int32)) hx hb dX7_exchange_28 (by decide) ?_
        refine lv_iload_n hx hb dX7_exchange_29 rfl (lv_at hl 2 rfl) ?_
        refine lv_iadd hx hb dX7_exchange_30 ?_
        obtain ⟨h_7, hw⟩ := hw
        refine va_iald hx hb hK hP 1 0 rfl rfl h_7 dX7_exchange_31 ?_
        refine lv_istore_n (lv' := [(3, .int (uR ((1 : Int32) + x2).toNatClampNeg)), (0, .ref uo), (1, .int x1), (2, .int x2)]) hx hb dX7_exchange_32 rfl hl (by decide) rfl (fun ls hl => ?_)
        refine lv_iconst (v := (0 : Int32)) hx hb dX7_exchange_33 (by decide) ?_
        refine lv_istore (lv' := [(4, .int (0 : Int32)), (3, .int (uR ((1 : Int32) + x2).toNatClampNeg)), (0, .ref uo), (1, .int x1), (2, .int x2)]) hx hb dX7_exchange_34 hl (by decide) rfl (fun ls hl => ?_)
        exact hJ36 x1 x2 (uR ((1 : Int32) + x2).toNatClampNeg) (0 : Int32) uR uk uN hw ls _ _ (lv_sub hl [2, 3, 4, 1, 0] rfl) hP hD hS
    · intro x1 x2 x3 x4 uR uk uN hw ls H locs hl hP hD hS
      unfold B_X7_exchange_36 at hw
      refine lv_iload hx hb dX7_exchange_36 (lv_at hl 4 rfl) ?_
      refine lv_iload_n hx hb dX7_exchange_38 rfl (lv_at hl 1 rfl) ?_
      refine lv_icmp_ge (tgt := 89) hx hb dX7_exchange_39 (by decide) (fun c_8 => ?_) (fun c_8 => ?_)
      · have hw := hw.1 c_8
        refine lv_iinc (v := (x2 + (1 : Int32))) (lv' := [(2, .int (x2 + (1 : Int32))), (0, .ref uo), (1, .int x1), (3, .int x3), (4, .int x4)]) hx hb dX7_exchange_89 hl (k := 2) rfl (by first | rfl | decide) (by decide) rfl (fun ls hl => ?_)
        refine lv_goto (tgt := 18) hx hb dX7_exchange_92 (by decide) ?_
        exact hJ18 x1 (x2 + (1 : Int32)) uR uk uN hw ls _ _ (lv_sub hl [1, 2, 0] rfl) hP hD hS
      · have hw := hw.2 c_8
        refine lv_aload_n hx hb dX7_exchange_42 rfl (lv_at hl 0 rfl) ?_
        refine va_get (D := (dC, dI)) (ci := 7) (v := .ref ur) (C := RX7) (T := TX7) (N := 16) hx hb hts in_X7_exchange_X7 hown hK hP 0 rfl rfl 0 (by decide) (hts (.fieldLink RX7 7 "CakeMarksModel" "row" "[I") (List.mem_of_getElem? (i := 1) rfl)) (fun _ h9 => h9) rfl dX7_exchange_43 ?_
        refine lv_iconst (v := (1 : Int32)) hx hb dX7_exchange_46 (by decide) ?_
        refine lv_iload_n hx hb dX7_exchange_47 rfl (lv_at hl 2 rfl) ?_
        refine lv_iadd hx hb dX7_exchange_48 ?_
        refine lv_iload_n hx hb dX7_exchange_49 rfl (lv_at hl 3 rfl) ?_
        refine lv_aload_n hx hb dX7_exchange_50 rfl (lv_at hl 0 rfl) ?_
        refine va_get (D := (dC, dI)) (ci := 7) (v := .ref un) (C := RX7) (T := TX7) (N := 16) hx hb hts in_X7_exchange_X7 hown hK hP 0 rfl rfl 6 (by decide) (hts (.fieldLink RX7 19 "CakeMarksModel" "ring" "[I") (List.mem_of_getElem? (i := 2) rfl)) (fun _ h9 => h9) rfl dX7_exchange_51 ?_
        refine lv_iload hx hb dX7_exchange_54 (lv_at hl 4 rfl) ?_
        refine lv_iconst (v := (1 : Int32)) hx hb dX7_exchange_56 (by decide) ?_
        refine lv_iadd hx hb dX7_exchange_57 ?_
        refine lv_iload_n hx hb dX7_exchange_58 rfl (lv_at hl 1 rfl) ?_
        obtain ⟨h_9, hw⟩ := hw
        refine lv_irem hx hb dX7_exchange_59 h_9 ?_
        obtain ⟨h_10, hw⟩ := hw
        refine va_iald hx hb hK hP 4 0 rfl rfl h_10 dX7_exchange_60 ?_
        refine lv_icmp_ne (tgt := 74) hx hb dX7_exchange_61 (by decide) (fun c_11 => ?_) (fun c_11 => ?_)
        · have hw := hw.1 c_11
          refine lv_aload_n hx hb dX7_exchange_74 rfl (lv_at hl 0 rfl) ?_
          refine va_get (D := (dC, dI)) (ci := 7) (v := .ref ur) (C := RX7) (T := TX7) (N := 16) hx hb hts in_X7_exchange_X7 hown hK hP 0 rfl rfl 0 (by decide) (hts (.fieldLink RX7 7 "CakeMarksModel" "row" "[I") (List.mem_of_getElem? (i := 1) rfl)) (fun _ h9 => h9) rfl dX7_exchange_75 ?_
          refine lv_iconst (v := (1 : Int32)) hx hb dX7_exchange_78 (by decide) ?_
          refine lv_iload_n hx hb dX7_exchange_79 rfl (lv_at hl 2 rfl) ?_
          refine lv_iadd hx hb dX7_exchange_80 ?_
          obtain ⟨h_12, hw⟩ := hw
          refine va_iald hx hb hK hP 1 0 rfl rfl h_12 dX7_exchange_81 ?_
          refine va_iast hx hb hK hP hD hS 1 0 rfl rfl h_12 dX7_exchange_82 (fun H locs hP hD hS => ?_)
          have hP : va_P (dC, dI) vwCl (kModel kI uo ur ux ut un uf uw ub (upd uR ((1 : Int32) + x2).toNatClampNeg (uR ((1 : Int32) + x2).toNatClampNeg)) uk uX ul uT ui uN uF uW uB ubw ubu ubd ucm ucw ucf) H := hP
          have hD : va_D A (kModel kI uo ur ux ut un uf uw ub (upd uR ((1 : Int32) + x2).toNatClampNeg (uR ((1 : Int32) + x2).toNatClampNeg)) uk uX ul uT ui uN uF uW uB ubw ubu ubd ucm ucw ucf) := hD
          refine lv_iinc (v := (x4 + (1 : Int32))) (lv' := [(4, .int (x4 + (1 : Int32))), (0, .ref uo), (1, .int x1), (2, .int x2), (3, .int x3)]) hx hb dX7_exchange_83 hl (k := 4) rfl (by first | rfl | decide) (by decide) rfl (fun ls hl => ?_)
          refine lv_goto (tgt := 36) hx hb dX7_exchange_86 (by decide) ?_
          exact hJ36 x1 x2 x3 (x4 + (1 : Int32)) (upd uR ((1 : Int32) + x2).toNatClampNeg (uR ((1 : Int32) + x2).toNatClampNeg)) uk uN hw ls _ _ (lv_sub hl [1, 2, 3, 4, 0] rfl) hP hD hS
        · have hw := hw.2 c_11
          refine lv_aload_n hx hb dX7_exchange_64 rfl (lv_at hl 0 rfl) ?_
          refine va_get (D := (dC, dI)) (ci := 7) (v := .ref un) (C := RX7) (T := TX7) (N := 16) hx hb hts in_X7_exchange_X7 hown hK hP 0 rfl rfl 6 (by decide) (hts (.fieldLink RX7 19 "CakeMarksModel" "ring" "[I") (List.mem_of_getElem? (i := 2) rfl)) (fun _ h9 => h9) rfl dX7_exchange_65 ?_
          refine lv_iload hx hb dX7_exchange_68 (lv_at hl 4 rfl) ?_
          obtain ⟨h_13, hw⟩ := hw
          refine va_iald hx hb hK hP 4 0 rfl rfl h_13 dX7_exchange_70 ?_
          refine lv_goto (tgt := 82) hx hb dX7_exchange_71 (by decide) ?_
          obtain ⟨h_14, hw⟩ := hw
          refine va_iast hx hb hK hP hD hS 1 0 rfl rfl h_14 dX7_exchange_82 (fun H locs hP hD hS => ?_)
          have hP : va_P (dC, dI) vwCl (kModel kI uo ur ux ut un uf uw ub (upd uR ((1 : Int32) + x2).toNatClampNeg (uN x4.toNatClampNeg)) uk uX ul uT ui uN uF uW uB ubw ubu ubd ucm ucw ucf) H := hP
          have hD : va_D A (kModel kI uo ur ux ut un uf uw ub (upd uR ((1 : Int32) + x2).toNatClampNeg (uN x4.toNatClampNeg)) uk uX ul uT ui uN uF uW uB ubw ubu ubd ucm ucw ucf) := hD
          refine lv_iinc (v := (x4 + (1 : Int32))) (lv' := [(4, .int (x4 + (1 : Int32))), (0, .ref uo), (1, .int x1), (2, .int x2), (3, .int x3)]) hx hb dX7_exchange_83 hl (k := 4) rfl (by first | rfl | decide) (by decide) rfl (fun ls hl => ?_)
          refine lv_goto (tgt := 36) hx hb dX7_exchange_86 (by decide) ?_
          exact hJ36 x1 x2 x3 (x4 + (1 : Int32)) (upd uR ((1 : Int32) + x2).toNatClampNeg (uN x4.toNatClampNeg)) uk uN hw ls _ _ (lv_sub hl [1, 2, 3, 4, 0] rfl) hP hD hS
  have hJ18 : ∀ (x1 : Int32) (x2 : Int32) (uR : Nat → Int32) (uk : Int32) (uN : Nat → Int32), Wp_X7_exchange_18 Z x1 x2 uR uk uN → ∀ (ls : Array Slot) (H : Heap) (locs : List Loc), lv_has ls 5 [(0, .ref uo), (1, .int x1), (2, .int x2)] → va_P (dC, dI) vwCl (kModel kI uo ur ux ut un uf uw ub uR uk uX ul uT ui uN uF uW uB ubw ubu ubd ucm ucw ucf) H → va_D A (kModel kI uo ur ux ut un uf uw ub uR uk uX ul uT ui uN uF uW uB ubw ubu ubd ucm ucw ucf) → va_S A s.heap H locs → W p l e ({ frames := 5, cells := 0, slots := 0, locals := 119 }) s m args below meth c H locs 0 0 Q (F0 m 18 ls []) := fun x1 x2 uR uk uN hv => hv (fun x1 x2 uR uk uN => ∀ (ls : Array Slot) (H : Heap) (locs : List Loc), lv_has ls 5 [(0, .ref uo), (1, .int x1), (2, .int x2)] → va_P (dC, dI) vwCl (kModel kI uo ur ux ut un uf uw ub uR uk uX ul uT ui uN uF uW uB ubw ubu ubd ucm ucw ucf) H → va_D A (kModel kI uo ur ux ut un uf uw ub uR uk uX ul uT ui uN uF uW uB ubw ubu ubd ucm ucw ucf) → va_S A s.heap H locs → W p l e ({ frames := 5, cells := 0, slots := 0, locals := 119 }) s m args below meth c H locs 0 0 Q (F0 m 18 ls [])) (fun x1 x2 x3 x4 uR uk uN => ∀ (ls : Array Slot) (H : Heap) (locs : List Loc), lv_has ls 5 [(0, .ref uo), (1, .int x1), (2, .int x2), (3, .int x3), (4, .int x4)] → va_P (dC, dI) vwCl (kModel kI uo ur ux ut un uf uw ub uR uk uX ul uT ui uN uF uW uB ubw ubu ubd ucm ucw ucf) H → va_D A (kModel kI uo ur ux ut un uf uw ub uR uk uX ul uT ui uN uF uW uB ubw ubu ubd ucm ucw ucf) → va_S A s.heap H locs → W p l e ({ frames := 5, cells := 0, slots := 0, locals := 119 }) s m args below meth c H locs 0 0 Q (F0 m 36 ls [])) (fun J18 J36 q18 q36 => (key J18 J36 q18 q36).1) (fun J18 J36 q18 q36 => (key J18 J36 q18 q36).2)
  have hJ36 : ∀ (x1 : Int32) (x2 : Int32) (x3 : Int32) (x4 : Int32) (uR : Nat → Int32) (uk : Int32) (uN : Nat → Int32), Wp_X7_exchange_36 Z x1 x2 x3 x4 uR uk uN → ∀ (ls : Array Slot) (H : Heap) (locs : List Loc), lv_has ls 5 [(0, .ref uo), (1, .int x1), (2, .int x2), (3, .int x3), (4, .int x4)] → va_P (dC, dI) vwCl (kModel kI uo ur ux ut un uf uw ub uR uk uX ul uT ui uN uF uW uB ubw ubu ubd ucm ucw ucf) H → va_D A (kModel kI uo ur ux ut un uf uw ub uR uk uX ul uT ui uN uF uW uB ubw ubu ubd ucm ucw ucf) → va_S A s.heap H locs → W p l e ({ frames := 5, cells := 0, slots := 0, locals := 119 }) s m args below meth c H locs 0 0 Q (F0 m 36 ls []) := fun x1 x2 x3 x4 uR uk uN hv => hv (fun x1 x2 uR uk uN => ∀ (ls : Array Slot) (H : Heap) (locs : List Loc), lv_has ls 5 [(0, .ref uo), (1, .int x1), (2, .int x2)] → va_P (dC, dI) vwCl (kModel kI uo ur ux ut un uf uw ub uR uk uX ul uT ui uN uF uW uB ubw ubu ubd ucm ucw ucf) H → va_D A (kModel kI uo ur ux ut un uf uw ub uR uk uX ul uT ui uN uF uW uB ubw ubu ubd ucm ucw ucf) → va_S A s.heap H locs → W p l e ({ frames := 5, cells := 0, slots := 0, locals := 119 }) s m args below meth c H locs 0 0 Q (F0 m 18 ls [])) (fun x1 x2 x3 x4 uR uk uN => ∀ (ls : Array Slot) (H : Heap) (locs : List Loc), lv_has ls 5 [(0, .ref uo), (1, .int x1), (2, .int x2), (3, .int x3), (4, .int x4)] → va_P (dC, dI) vwCl (kModel kI uo ur ux ut un uf uw ub uR uk uX ul uT ui uN uF uW uB ubw ubu ubd ucm ucw ucf) H → va_D A (kModel kI uo ur ux ut un uf uw ub uR uk uX ul uT ui uN uF uW uB ubw ubu ubd ucm ucw ucf) → va_S A s.heap H locs → W p l e ({ frames := 5, cells := 0, slots := 0, locals := 119 }) s m args below meth c H locs 0 0 Q (F0 m 36 ls [])) (fun J18 J36 q18 q36 => (key J18 J36 q18 q36).1) (fun J18 J36 q18 q36 => (key J18 J36 q18 q36).2)
  unfold Wp_X7_exchange at hw
  refine lv_aload_n hx hb dX7_exchange_0 rfl (lv_at hl 0 rfl) ?_
  refine zcallI (ci := 7) (q0 := 0) (As := []) (rest := []) (wr := ([] : va_W)) (Wn := fun u => (kModel kI uo ur ux ut un uf uw ub uR uk uX ul uT ui u uF uW uB ubw ubu ubd ucm ucw ucf)) ⟨hx, hb, hml, hown, hts⟩ (c_X7_layRing l dC dI kI kA kC uo ur ux ut un uf uw ub _ uR uk uX ul uT ui uN uF uW uB ubw ubu ubd ucm ucw ucf _ hw) (cwV 0 hts gX7_exchange_X7_layRing rfl rfl rfl (by decide +kernel) ⟨Nat.le_of_ble_eq_true rfl, Nat.le_of_ble_eq_true rfl⟩) hK hP hD hS hA [0, 1, 2, 3, 4, 5, 6, 7] [] [0, 1, 2, 3, 4, 5, 6, 7] rfl rfl (by decide) (by decide) (by decide) (fun u => rfl) (by decide) rfl rfl rfl rfl hl.1 rfl (Nat.le_of_ble_eq_true rfl) dX7_exchange_1 ⟨Nat.zero_le _, Nat.zero_le _⟩ (fun r_2 uN_1 H locs hw hP hD hS => ?_)
  have hP : va_P (dC, dI) vwCl (kModel kI uo ur ux ut un uf uw ub uR uk uX ul uT ui uN_1 uF uW uB ubw ubu ubd ucm ucw ucf) H := hP
  have hD : va_D A (kModel kI uo ur ux ut un uf uw ub uR uk uX ul uT ui uN_1 uF uW uB ubw ubu ubd ucm ucw ucf) := hD
  refine lv_istore_n (lv' := [(1, .int r_2), (0, .ref uo)]) hx hb dX7_exchange_4 rfl hl (by decide) rfl (fun ls hl => ?_)
  refine lv_iload_n hx hb dX7_exchange_5 rfl (lv_at hl 0 rfl) ?_
  refine lv_if_ne (tgt := 12) hx hb dX7_exchange_6 (by decide) (fun c_3 => ?_) (fun c_3 => ?_)
  · have hw := hw.1 c_3
    refine lv_aload_n hx hb dX7_exchange_12 rfl (lv_at hl 1 rfl) ?_
    refine zcallV (ci := 7) (q0 := 0) (As := []) (rest := []) (wr := ([] : va_W)) (Wn := fun u => (kModel kI uo ur ux ut un uf uw ub u.1 u.2 uX ul uT ui uN_1 uF uW uB ubw ubu ubd ucm ucw ucf)) ⟨hx, hb, hml, hown, hts⟩ (c_X7_records l dC dI kI kA kC uo ur ux ut un uf uw ub _ uR uk uX ul uT ui uN_1 uF uW uB ubw ubu ubd ucm ucw ucf _ hw) (cwV 0 hts gX7_exchange_X7_records rfl rfl rfl (by decide +kernel) ⟨Nat.le_of_ble_eq_true rfl, Nat.le_of_ble_eq_true rfl⟩) hK hP hD hS hA [0, 1, 2, 3, 4, 5, 6, 7] [] [0, 1, 2, 3, 4, 5, 6, 7] rfl rfl (by decide) (by decide) (by decide) (fun u => rfl) (by decide) rfl rfl rfl rfl hl.1 rfl (Nat.le_of_ble_eq_true rfl) dX7_exchange_13 ⟨Nat.zero_le _, Nat.zero_le _⟩ (fun u H locs hw hP hD hS => ?_)
    obtain ⟨uR_4, uk_5⟩ := u
    have hP : va_P (dC, dI) vwCl (kModel kI uo ur ux ut un uf uw ub uR_4 uk_5 uX ul uT ui uN_1 uF uW uB ubw ubu ubd ucm ucw ucf) H := hP
    have hD : va_D A (kModel kI uo ur ux ut un uf uw ub uR_4 uk_5 uX ul uT ui uN_1 uF uW uB ubw ubu ubd ucm ucw ucf) := hD
    refine lv_iconst (v := (0 : Int32)) hx hb dX7_exchange_16 (by decide) ?_
    refine lv_istore_n (lv' := [(2, .int (0 : Int32)), (1, .int r_2), (0, .ref uo)]) hx hb dX7_exchange_17 rfl hl (by decide) rfl (fun ls hl => ?_)
    exact hJ18 r_2 (0 : Int32) uR_4 uk_5 uN_1 hw ls _ _ (lv_sub hl [2, 1, 0] rfl) hP hD hS
  · have hw := hw.2 c_3
    refine lv_bipush (v := (-2 : Int32)) hx hb dX7_exchange_9 (by decide) ?_
    exact hret 11 (-2 : Int32) (uR, uk, uN_1) _ _ _ (fun h => absurd h (by decide)) hw hP hD hS dX7_exchange_11
-- CakeMarksModel.undo()I
def Wp_X7_undo (uR : Nat → Int32) (uk : Int32) (Z : Int32 → (Nat → Int32) → Int32 → Prop) : Prop := ((¬ uk = (0 : Int32) → (Wp_X7_copies uR ((121 : Int32) * uk) (0 : Int32) (fun uR_2 => (Z (uk - (1 : Int32)) uR_2 (uk - (1 : Int32)))))) ∧ (uk = (0 : Int32) → (Z (-2 : Int32) uR uk)))
theorem in_X7_undo_X7 : ∀ w ∈ u_ws RX7 TX7 16, w ∈ wsX7_undo := fun w h => List.mem_cons_of_mem _ (List.mem_append_right _ h)
set_option maxHeartbeats 20000000 in
set_option maxRecDepth 100000 in
theorem c_X7_undo (l : Launch) (dC : Nat → ClassId) (dI : Nat → Nat → Nat) (kI kA kC : ClassId) (uo : Nat) (ur : Nat) (ux : Nat) (ut : Nat) (un : Nat) (uf : Nat) (uw : Nat) (ub : Nat) (sz : Nat) (uR : Nat → Int32) (uk : Int32) (uX : Nat → Int32) (ul : Int32) (uT : Nat → Int32) (ui : Int32) (uN : Nat → Int32) (uF : Nat → Int32) (uW : Nat → Int32) (uB : Nat → Int32) (ubw : Int32) (ubu : Int32) (ubd : Int32) (ucm : Int32) (ucw : Int32) (ucf : Int32) (Z : Int32 → (Nat → Int32) → Int32 → Prop) (hw : Wp_X7_undo uR uk Z) : zI l yX7_undo wsX7_undo ({ frames := 1, cells := 0, slots := 0, locals := 23 }) dC dI kI kA kC sz 0 0 [.ref uo] (kModel kI uo ur ux ut un uf uw ub uR uk uX ul uT ui uN uF uW uB ubw ubu ubd ucm ucw ucf) (fun (r : Int32) (u : (Nat → Int32) × Int32) => Z r u.1 u.2) (fun (u : (Nat → Int32) × Int32) => (kModel kI uo ur ux ut un uf uw ub u.1 u.2 uX ul uT ui uN uF uW uB ubw ubu ubd ucm ucw ucf)) := by
  refine zI.of (cc := cX7_undo) (maxL := 1) (ty := .int) (by decide) rfl (Nat.le_of_ble_eq_true rfl) (Or.inl rfl) ?_
  intro p e s m args below meth c A Q C0 hret ls hl
  obtain ⟨hx, hb, hr, hml, hts, hown, hin, hP, hK, hD, hA, hS⟩ := C0
  have hown : s.vm.findClass RX7 = some m.cls := hown
  have hl : lv_has ls 1 [(0, .ref uo)] := hl
  unfold Wp_X7_undo at hw
  refine lv_aload_n hx hb dX7_undo_0 rfl (lv_at hl 0 rfl) ?_
  refine va_get (D := (dC, dI)) (ci := 7) (v := .int uk) (C := RX7) (T := TX7) (N := 16) hx hb hts in_X7_undo_X7 hown hK hP 0 rfl rfl 1 (by decide) (hts (.fieldLink RX7 31 "CakeMarksModel" "kept" "I") (List.mem_of_getElem? (i := 1) rfl)) (fun _ h9 => h9) rfl dX7_undo_1 ?_
  refine lv_if_ne (tgt := 10) hx hb dX7_undo_4 (by decide) (fun c_1 => ?_) (fun c_1 => ?_)
  · have hw := hw.1 c_1
    refine lv_aload_n hx hb dX7_undo_10 rfl (lv_at hl 0 rfl) ?_
    refine lv_bipush (v := (121 : Int32)) hx hb dX7_undo_11 (by decide) ?_
    refine lv_aload_n hx hb dX7_undo_13 rfl (lv_at hl 0 rfl) ?_
    refine va_get (D := (dC, dI)) (ci := 7) (v := .int uk) (C := RX7) (T := TX7) (N := 16) hx hb hts in_X7_undo_X7 hown hK hP 0 rfl rfl 1 (by decide) (hts (.fieldLink RX7 31 "CakeMarksModel" "kept" "I") (List.mem_of_getElem? (i := 1) rfl)) (fun _ h9 => h9) rfl dX7_undo_14 ?_
    refine lv_imul hx hb dX7_undo_17 ?_
    refine lv_iconst (v := (0 : Int32)) hx hb dX7_undo_18 (by decide) ?_
    refine zcallV (ci := 7) (q0 := 0) (As := [.int ((121 : Int32) * uk), .int (0 : Int32)]) (rest := []) (wr := ([] : va_W)) (Wn := fun u => (kModel kI uo ur ux ut un uf uw ub u uk uX ul uT ui uN uF uW uB ubw ubu ubd ucm ucw ucf)) ⟨hx, hb, hml, hown, hts⟩ (c_X7_copies l dC dI kI kA kC uo ur ux ut un uf uw ub _ uR uk uX ul uT ui uN uF uW uB ubw ubu ubd ucm ucw ucf ((121 : Int32) * uk) (0 : Int32) _ hw) (cwV 2 hts gX7_undo_X7_copies rfl rfl rfl (by decide +kernel) ⟨Nat.le_of_ble_eq_true rfl, Nat.le_of_ble_eq_true rfl⟩) hK hP hD hS hA [0, 1, 2, 3, 4, 5, 6, 7] [] [0, 1, 2, 3, 4, 5, 6, 7] rfl rfl (by decide) (by decide) (by decide) (fun u => rfl) (by decide) rfl rfl rfl rfl hl.1 rfl (Nat.le_of_ble_eq_true rfl) dX7_undo_19 ⟨Nat.zero_le _, Nat.zero_le _⟩ (fun uR_2 H locs hw hP hD hS => ?_)
    have hP : va_P (dC, dI) vwCl (kModel kI uo ur ux ut un uf uw ub uR_2 uk uX ul uT ui uN uF uW uB ubw ubu ubd ucm ucw ucf) H := hP
    have hD : va_D A (kModel kI uo ur ux ut un uf uw ub uR_2 uk uX ul uT ui uN uF uW uB ubw ubu ubd ucm ucw ucf) := hD
    refine lv_aload_n hx hb dX7_undo_22 rfl (lv_at hl 0 rfl) ?_
    refine lv_dup hx hb dX7_undo_23 rfl ?_
    refine va_get (D := (dC, dI)) (ci := 7) (v := .int uk) (C := RX7) (T := TX7) (N := 16) hx hb hts in_X7_undo_X7 hown hK hP 0 rfl rfl 1 (by decide) (hts (.fieldLink RX7 31 "CakeMarksModel" "kept" "I") (List.mem_of_getElem? (i := 1) rfl)) (fun _ h9 => h9) rfl dX7_undo_24 ?_
    refine lv_iconst (v := (1 : Int32)) hx hb dX7_undo_27 (by decide) ?_
    refine lv_isub hx hb dX7_undo_28 ?_
    refine va_put (D := (dC, dI)) (ci := 7) (v := .int (uk - (1 : Int32))) (ty := .int) (C := RX7) (T := TX7) (N := 16) hx hb hts in_X7_undo_X7 tyX7 tyX7_ok nmX7 hown hK hP hD hS 0 rfl rfl 1 (by decide) (hts (.fieldLink RX7 31 "CakeMarksModel" "kept" "I") (List.mem_of_getElem? (i := 1) rfl)) (fun _ h9 => h9) rfl (by decide +kernel) rfl rfl (Nat.le_of_ble_eq_true rfl) dX7_undo_29 (fun H locs hP hD hS => ?_)
    have hP : va_P (dC, dI) vwCl (kModel kI uo ur ux ut un uf uw ub uR_2 (uk - (1 : Int32)) uX ul uT ui uN uF uW uB ubw ubu ubd ucm ucw ucf) H := hP
    have hD : va_D A (kModel kI uo ur ux ut un uf uw ub uR_2 (uk - (1 : Int32)) uX ul uT ui uN uF uW uB ubw ubu ubd ucm ucw ucf) := hD
    refine lv_aload_n hx hb dX7_undo_32 rfl (lv_at hl 0 rfl) ?_
    refine va_get (D := (dC, dI)) (ci := 7) (v := .int (uk - (1 : Int32))) (C := RX7) (T := TX7) (N := 16) hx hb hts in_X7_undo_X7 hown hK hP 0 rfl rfl 1 (by decide) (hts (.fieldLink RX7 31 "CakeMarksModel" "kept" "I") (List.mem_of_getElem? (i := 1) rfl)) (fun _ h9 => h9) rfl dX7_undo_33 ?_
    exact hret 36 (uk - (1 : Int32)) (uR_2, (uk - (1 : Int32))) _ _ _ (fun h => absurd h (by decide)) hw hP hD hS dX7_undo_36
  · have hw := hw.2 c_1
    refine lv_bipush (v := (-2 : Int32)) hx hb dX7_undo_7 (by decide) ?_
    exact hret 9 (-2 : Int32) (uR, uk) _ _ _ (fun h => absurd h (by decide)) hw hP hD hS dX7_undo_9
-- CakeMarksModel.onTable()I
def B_X7_onTable_4 (uR : Nat → Int32) (Z : Int32 → Prop) (J4 : Int32 → Int32 → Prop) (x1 : Int32) (x2 : Int32) : Prop := (((24 : Int32) ≤ x2 → (Z x1)) ∧ (¬ (24 : Int32) ≤ x2 → (vp_in ((1 : Int32) + x2) 847 ∧ ((¬ (uR ((1 : Int32) + x2).toNatClampNeg) = (-9 : Int32) → (J4 (x1 + (0 : Int32)) (x2 + (1 : Int32)))) ∧ ((uR ((1 : Int32) + x2).toNatClampNeg) = (-9 : Int32) → (J4 (x1 + (1 : Int32)) (x2 + (1 : Int32))))))))
def Wp_X7_onTable_4 (uR : Nat → Int32) (Z : Int32 → Prop) (x1 : Int32) (x2 : Int32) : Prop := ∀ (I4 : Int32 → Int32 → Prop), (∀ (J4 : Int32 → Int32 → Prop), (∀ (x1 : Int32) (x2 : Int32), J4 x1 x2 → I4 x1 x2) → ∀ (x1 : Int32) (x2 : Int32), B_X7_onTable_4 uR Z J4 x1 x2 → I4 x1 x2) → I4 x1 x2
theorem F_X7_onTable_4 (uR : Nat → Int32) (Z : Int32 → Prop) (x1 : Int32) (x2 : Int32) (h : B_X7_onTable_4 uR Z (Wp_X7_onTable_4 uR Z) x1 x2) : Wp_X7_onTable_4 uR Z x1 x2 := fun I4 h4 => h4 _ (fun x1 x2 hx => hx I4 h4) x1 x2 h
def Wp_X7_onTable (uR : Nat → Int32) (Z : Int32 → Prop) : Prop := ((Wp_X7_onTable_4 uR Z) (0 : Int32) (0 : Int32))
theorem in_X7_onTable_X7 : ∀ w ∈ u_ws RX7 TX7 16, w ∈ wsX7_onTable := fun w h => List.mem_cons_of_mem _ (List.mem_append_right _ h)
set_option maxHeartbeats 20000000 in
set_option maxRecDepth 100000 in
theorem c_X7_onTable (l : Launch) (dC : Nat → ClassId) (dI : Nat → Nat → Nat) (kI kA kC : ClassId) (uo : Nat) (ur : Nat) (ux : Nat) (ut : Nat) (un : Nat) (uf : Nat) (uw : Nat) (ub : Nat) (sz : Nat) (uR : Nat → Int32) (uk : Int32) (uX : Nat → Int32) (ul : Int32) (uT : Nat → Int32) (ui : Int32) (uN : Nat → Int32) (uF : Nat → Int32) (uW : Nat → Int32) (uB : Nat → Int32) (ubw : Int32) (ubu : Int32) (ubd : Int32) (ucm : Int32) (ucw : Int32) (ucf : Int32) (Z : Int32 → Prop) (hw : Wp_X7_onTable uR Z) : zI l yX7_onTable wsX7_onTable ({ frames := 0, cells := 0, slots := 0, locals := 0 }) dC dI kI kA kC sz 0 0 [.ref uo] (kModel kI uo ur ux ut un uf uw ub uR uk uX ul uT ui uN uF uW uB ubw ubu ubd ucm ucw ucf) (fun (r : Int32) (u : Unit) => Z r ) (fun (u : Unit) => (kModel kI uo ur ux ut un uf uw ub uR uk uX ul uT ui uN uF uW uB ubw ubu ubd ucm ucw ucf)) := by
  refine zI.of (cc := cX7_onTable) (maxL := 3) (ty := .int) (by decide) rfl (Nat.le_of_ble_eq_true rfl) (Or.inl rfl) ?_
  intro p e s m args below meth c A Q C0 hret ls hl
  obtain ⟨hx, hb, hr, hml, hts, hown, hin, hP, hK, hD, hA, hS⟩ := C0
  have hown : s.vm.findClass RX7 = some m.cls := hown
  have hl : lv_has ls 3 [(0, .ref uo)] := hl
  have key : ∀ (J4 : Int32 → Int32 → Prop) (hJ4 : ∀ (x1 : Int32) (x2 : Int32), J4 x1 x2 → ∀ (ls : Array Slot) (H : Heap) (locs : List Loc), lv_has ls 3 [(0, .ref uo), (1, .int x1), (2, .int x2)] → va_P (dC, dI) vwCl (kModel kI uo ur ux ut un uf uw ub uR uk uX ul uT ui uN uF uW uB ubw ubu ubd ucm ucw ucf) H → va_D A (kModel kI uo ur ux ut un uf uw ub uR uk uX ul uT ui uN uF uW uB ubw ubu ubd ucm ucw ucf) → va_S A s.heap H locs → W p l e ({ frames := 0, cells := 0, slots := 0, locals := 0 }) s m args below meth c H locs 0 0 Q (F0 m 4 ls [])), (∀ (x1 : Int32) (x2 : Int32), B_X7_onTable_4 uR Z J4 x1 x2 → ∀ (ls : Array Slot) (H : Heap) (locs : List Loc), lv_has ls 3 [(0, .ref uo), (1, .int x1), (2, .int x2)] → va_P (dC, dI) vwCl (kModel kI uo ur ux ut un uf uw ub uR uk uX ul uT ui uN uF uW uB ubw ubu ubd ucm ucw ucf) H → va_D A (kModel kI uo ur ux ut un uf uw ub uR uk uX ul uT ui uN uF uW uB ubw ubu ubd ucm ucw ucf) → va_S A s.heap H locs → W p l e ({ frames := 0, cells := 0, slots := 0, locals := 0 }) s m args below meth c H locs 0 0 Q (F0 m 4 ls [])) := by
    intro J4 hJ4
    · intro x1 x2 hw ls H locs hl hP hD hS
      unfold B_X7_onTable_4 at hw
      refine lv_iload_n hx hb dX7_onTable_4 rfl (lv_at hl 2 rfl) ?_
      refine lv_bipush (v := (24 : Int32)) hx hb dX7_onTable_5 (by decide) ?_
      refine lv_icmp_ge (tgt := 37) hx hb dX7_onTable_7 (by decide) (fun c_1 => ?_) (fun c_1 => ?_)
      · have hw := hw.1 c_1
        refine lv_iload_n hx hb dX7_onTable_37 rfl (lv_at hl 1 rfl) ?_
        exact hret 38 x1 () _ _ _ (fun h => absurd h (by decide)) hw hP hD hS dX7_onTable_38
      · have hw := hw.2 c_1
        refine lv_iload_n hx hb dX7_onTable_10 rfl (lv_at hl 1 rfl) ?_
        refine lv_aload_n hx hb dX7_onTable_11 rfl (lv_at hl 0 rfl) ?_
        refine va_get (D := (dC, dI)) (ci := 7) (v := .ref ur) (C := RX7) (T := TX7) (N := 16) hx hb hts in_X7_onTable_X7 hown hK hP 0 rfl rfl 0 (by decide) (hts (.fieldLink RX7 7 "CakeMarksModel" "row" "[I") (List.mem_of_getElem? (i := 1) rfl)) (fun _ h9 => h9) rfl dX7_onTable_12 ?_
        refine lv_iconst (v := (1 : Int32)) hx hb dX7_onTable_15 (by decide) ?_
        refine lv_iload_n hx hb dX7_onTable_16 rfl (lv_at hl 2 rfl) ?_
        refine lv_iadd hx hb dX7_onTable_17 ?_
        obtain ⟨h_2, hw⟩ := hw
        refine va_iald hx hb hK hP 1 0 rfl rfl h_2 dX7_onTable_18 ?_
        refine lv_bipush (v := (-9 : Int32)) hx hb dX7_onTable_19 (by decide) ?_
        refine lv_icmp_ne (tgt := 28) hx hb dX7_onTable_21 (by decide) (fun c_3 => ?_) (fun c_3 => ?_)
        · have hw := hw.1 c_3
          refine lv_iconst (v := (0 : Int32)) hx hb dX7_onTable_28 (by decide) ?_
          refine lv_iadd hx hb dX7_onTable_29 ?_
          refine lv_istore_n (lv' := [(1, .int (x1 + (0 : Int32))), (0, .ref uo), (2, .int x2)]) hx hb dX7_onTable_30 rfl hl (by decide) rfl (fun ls hl => ?_)
          refine lv_iinc (v := (x2 + (1 : Int32))) (lv' := [(2, .int (x2 + (1 : Int32))), (1, .int (x1 + (0 : Int32))), (0, .ref uo)]) hx hb dX7_onTable_31 hl (k := 2) rfl (by first | rfl | decide) (by decide) rfl (fun ls hl => ?_)
          refine lv_goto (tgt := 4) hx hb dX7_onTable_34 (by decide) ?_
          exact hJ4 (x1 + (0 : Int32)) (x2 + (1 : Int32)) hw ls _ _ (lv_sub hl [2, 1, 0] rfl) hP hD hS
        · have hw := hw.2 c_3
          refine lv_iconst (v := (1 : Int32)) hx hb dX7_onTable_24 (by decide) ?_
          refine lv_goto (tgt := 29) hx hb dX7_onTable_25 (by decide) ?_
          refine lv_iadd hx hb dX7_onTable_29 ?_
          refine lv_istore_n (lv' := [(1, .int (x1 + (1 : Int32))), (0, .ref uo), (2, .int x2)]) hx hb dX7_onTable_30 rfl hl (by decide) rfl (fun ls hl => ?_)
          refine lv_iinc (v := (x2 + (1 : Int32))) (lv' := [(2, .int (x2 + (1 : Int32))), (1, .int (x1 + (1 : Int32))), (0, .ref uo)]) hx hb dX7_onTable_31 hl (k := 2) rfl (by first | rfl | decide) (by decide) rfl (fun ls hl => ?_)
          refine lv_goto (tgt := 4) hx hb dX7_onTable_34 (by decide) ?_
          exact hJ4 (x1 + (1 : Int32)) (x2 + (1 : Int32)) hw ls _ _ (lv_sub hl [2, 1, 0] rfl) hP hD hS
  have hJ4 : ∀ (x1 : Int32) (x2 : Int32), Wp_X7_onTable_4 uR Z x1 x2 → ∀ (ls : Array Slot) (H : Heap) (locs : List Loc), lv_has ls 3 [(0, .ref uo), (1, .int x1), (2, .int x2)] → va_P (dC, dI) vwCl (kModel kI uo ur ux ut un uf uw ub uR uk uX ul uT ui uN uF uW uB ubw ubu ubd ucm ucw ucf) H → va_D A (kModel kI uo ur ux ut un uf uw ub uR uk uX ul uT ui uN uF uW uB ubw ubu ubd ucm ucw ucf) → va_S A s.heap H locs → W p l e ({ frames := 0, cells := 0, slots := 0, locals := 0 }) s m args below meth c H locs 0 0 Q (F0 m 4 ls []) := fun x1 x2 hv => hv (fun x1 x2 => ∀ (ls : Array Slot) (H : Heap) (locs : List Loc), lv_has ls 3 [(0, .ref uo), (1, .int x1), (2, .int x2)] → va_P (dC, dI) vwCl (kModel kI uo ur ux ut un uf uw ub uR uk uX ul uT ui uN uF uW uB ubw ubu ubd ucm ucw ucf) H → va_D A (kModel kI uo ur ux ut un uf uw ub uR uk uX ul uT ui uN uF uW uB ubw ubu ubd ucm ucw ucf) → va_S A s.heap H locs → W p l e ({ frames := 0, cells := 0, slots := 0, locals := 0 }) s m args below meth c H locs 0 0 Q (F0 m 4 ls [])) (fun J4 q4 => (key J4 q4))
  unfold Wp_X7_onTable at hw
  refine lv_iconst (v := (0 : Int32)) hx hb dX7_onTable_0 (by decide) ?_
  refine lv_istore_n (lv' := [(1, .int (0 : Int32)), (0, .ref uo)]) hx hb dX7_onTable_1 rfl hl (by decide) rfl (fun ls hl => ?_)
  refine lv_iconst (v := (0 : Int32)) hx hb dX7_onTable_2 (by decide) ?_
  refine lv_istore_n (lv' := [(2, .int (0 : Int32)), (1, .int (0 : Int32)), (0, .ref uo)]) hx hb dX7_onTable_3 rfl hl (by decide) rfl (fun ls hl => ?_)
  exact hJ4 (0 : Int32) (0 : Int32) hw ls _ _ (lv_sub hl [2, 1, 0] rfl) hP hD hS
-- CakeMarksModel.envies(Z)I
def K_X7_envies_45 (uR : Nat → Int32) (a1 : Int32) (Z : Int32 → Prop) (J4 : Int32 → Int32 → Prop) (J17 : Int32 → Int32 → Int32 → Prop) (x2 : Int32) (x3 : Int32) (x4 : Int32) (t0 : Int32) : Prop := ((a1 = (0 : Int32) → ((t0 ≤ (0 : Int32) → (J17 (x2 + (0 : Int32)) x3 (x4 + (1 : Int32)))) ∧ (¬ t0 ≤ (0 : Int32) → (J17 (x2 + (1 : Int32)) x3 (x4 + (1 : Int32)))))) ∧ (¬ a1 = (0 : Int32) → (J17 (x2 + t0) x3 (x4 + (1 : Int32)))))
def B_X7_envies_4 (uR : Nat → Int32) (a1 : Int32) (Z : Int32 → Prop) (J4 : Int32 → Int32 → Prop) (J17 : Int32 → Int32 → Int32 → Prop) (x2 : Int32) (x3 : Int32) : Prop := (vp_in (0 : Int32) 847 ∧ (((uR (0 : Int32).toNatClampNeg) ≤ x3 → (Z x2)) ∧ (¬ (uR (0 : Int32).toNatClampNeg) ≤ x3 → (J17 x2 x3 (0 : Int32)))))
def B_X7_envies_17 (uR : Nat → Int32) (a1 : Int32) (Z : Int32 → Prop) (J4 : Int32 → Int32 → Prop) (J17 : Int32 → Int32 → Int32 → Prop) (x2 : Int32) (x3 : Int32) (x4 : Int32) : Prop := (vp_in (0 : Int32) 847 ∧ (((uR (0 : Int32).toNatClampNeg) ≤ x4 → (J4 x2 (x3 + (1 : Int32)))) ∧ (¬ (uR (0 : Int32).toNatClampNeg) ≤ x4 → ((¬ x3 = x4 → (Wp_X7_envyOf uR x3 x4 (fun r_6 => (K_X7_envies_45 uR a1 Z J4 J17 x2 x3 x4 r_6)))) ∧ (x3 = x4 → (K_X7_envies_45 uR a1 Z J4 J17 x2 x3 x4 (0 : Int32)))))))
def Wp_X7_envies_4 (uR : Nat → Int32) (a1 : Int32) (Z : Int32 → Prop) (x2 : Int32) (x3 : Int32) : Prop := ∀ (I4 : Int32 → Int32 → Prop) (I17 : Int32 → Int32 → Int32 → Prop), (∀ (J4 : Int32 → Int32 → Prop) (J17 : Int32 → Int32 → Int32 → Prop), (∀ (x2 : Int32) (x3 : Int32), J4 x2 x3 → I4 x2 x3) → (∀ (x2 : Int32) (x3 : Int32) (x4 : Int32), J17 x2 x3 x4 → I17 x2 x3 x4) → ∀ (x2 : Int32) (x3 : Int32), B_X7_envies_4 uR a1 Z J4 J17 x2 x3 → I4 x2 x3) → (∀ (J4 : Int32 → Int32 → Prop) (J17 : Int32 → Int32 → Int32 → Prop), (∀ (x2 : Int32) (x3 : Int32), J4 x2 x3 → I4 x2 x3) → (∀ (x2 : Int32) (x3 : Int32) (x4 : Int32), J17 x2 x3 x4 → I17 x2 x3 x4) → ∀ (x2 : Int32) (x3 : Int32) (x4 : Int32), B_X7_envies_17 uR a1 Z J4 J17 x2 x3 x4 → I17 x2 x3 x4) → I4 x2 x3
def Wp_X7_envies_17 (uR : Nat → Int32) (a1 : Int32) (Z : Int32 → Prop) (x2 : Int32) (x3 : Int32) (x4 : Int32) : Prop := ∀ (I4 : Int32 → Int32 → Prop) (I17 : Int32 → Int32 → Int32 → Prop), (∀ (J4 : Int32 → Int32 → Prop) (J17 : Int32 → Int32 → Int32 → Prop), (∀ (x2 : Int32) (x3 : Int32), J4 x2 x3 → I4 x2 x3) → (∀ (x2 : Int32) (x3 : Int32) (x4 : Int32), J17 x2 x3 x4 → I17 x2 x3 x4) → ∀ (x2 : Int32) (x3 : Int32), B_X7_envies_4 uR a1 Z J4 J17 x2 x3 → I4 x2 x3) → (∀ (J4 : Int32 → Int32 → Prop) (J17 : Int32 → Int32 → Int32 → Prop), (∀ (x2 : Int32) (x3 : Int32), J4 x2 x3 → I4 x2 x3) → (∀ (x2 : Int32) (x3 : Int32) (x4 : Int32), J17 x2 x3 x4 → I17 x2 x3 x4) → ∀ (x2 : Int32) (x3 : Int32) (x4 : Int32), B_X7_envies_17 uR a1 Z J4 J17 x2 x3 x4 → I17 x2 x3 x4) → I17 x2 x3 x4
theorem F_X7_envies_4 (uR : Nat → Int32) (a1 : Int32) (Z : Int32 → Prop) (x2 : Int32) (x3 : Int32) (h : B_X7_envies_4 uR a1 Z (Wp_X7_envies_4 uR a1 Z) (Wp_X7_envies_17 uR a1 Z) x2 x3) : Wp_X7_envies_4 uR a1 Z x2 x3 := fun I4 I17 h4 h17 => h4 _ _ (fun x2 x3 hx => hx I4 I17 h4 h17) (fun x2 x3 x4 hx => hx I4 I17 h4 h17) x2 x3 h
theorem F_X7_envies_17 (uR : Nat → Int32) (a1 : Int32) (Z : Int32 → Prop) (x2 : Int32) (x3 : Int32) (x4 : Int32) (h : B_X7_envies_17 uR a1 Z (Wp_X7_envies_4 uR a1 Z) (Wp_X7_envies_17 uR a1 Z) x2 x3 x4) : Wp_X7_envies_17 uR a1 Z x2 x3 x4 := fun I4 I17 h4 h17 => h17 _ _ (fun x2 x3 hx => hx I4 I17 h4 h17) (fun x2 x3 x4 hx => hx I4 I17 h4 h17) x2 x3 x4 h
def Wp_X7_envies (uR : Nat → Int32) (a1 : Int32) (Z : Int32 → Prop) : Prop := ((Wp_X7_envies_4 uR a1 Z) (0 : Int32) (0 : Int32))
theorem in_X7_envies_X7 : ∀ w ∈ u_ws RX7 TX7 16, w ∈ wsX7_envies := fun w h => List.mem_cons_of_mem _ (List.mem_append_right _ h)
set_option maxHeartbeats 20000000 in
set_option maxRecDepth 100000 in
theorem c_X7_envies (l : Launch) (dC : Nat → ClassId) (dI : Nat → Nat → Nat) (kI kA kC : ClassId) (uo : Nat) (ur : Nat) (ux : Nat) (ut : Nat) (un : Nat) (uf : Nat) (uw : Nat) (ub : Nat) (sz : Nat) (uR : Nat → Int32) (uk : Int32) (uX : Nat → Int32) (ul : Int32) (uT : Nat → Int32) (ui : Int32) (uN : Nat → Int32) (uF : Nat → Int32) (uW : Nat → Int32) (uB : Nat → Int32) (ubw : Int32) (ubu : Int32) (ubd : Int32) (ucm : Int32) (ucw : Int32) (ucf : Int32) (a1 : Int32) (Z : Int32 → Prop) (hw : Wp_X7_envies uR a1 Z) : zI l yX7_envies wsX7_envies ({ frames := 3, cells := 0, slots := 0, locals := 69 }) dC dI kI kA kC sz 0 0 [.ref uo, .int a1] (kModel kI uo ur ux ut un uf uw ub uR uk uX ul uT ui uN uF uW uB ubw ubu ubd ucm ucw ucf) (fun (r : Int32) (u : Unit) => Z r ) (fun (u : Unit) => (kModel kI uo ur ux ut un uf uw ub uR uk uX ul uT ui uN uF uW uB ubw ubu ubd ucm ucw ucf)) := by
  refine zI.of (cc := cX7_envies) (maxL := 6) (ty := .int) (by decide) rfl (Nat.le_of_ble_eq_true rfl) (Or.inl rfl) ?_
  intro p e s m args below meth c A Q C0 hret ls hl
  obtain ⟨hx, hb, hr, hml, hts, hown, hin, hP, hK, hD, hA, hS⟩ := C0
  have hown : s.vm.findClass RX7 = some m.cls := hown
  have hl : lv_has ls 6 [(0, .ref uo), (1, .int a1)] := hl
  have k_45 : ∀ (J4 : Int32 → Int32 → Prop) (J17 : Int32 → Int32 → Int32 → Prop) (hJ4 : ∀ (x2 : Int32) (x3 : Int32), J4 x2 x3 → ∀ (ls : Array Slot) (H : Heap) (locs : List Loc), lv_has ls 6 [(0, .ref uo), (1, .int a1), (2, .int x2), (3, .int x3)] → va_P (dC, dI) vwCl (kModel kI uo ur ux ut un uf uw ub uR uk uX ul uT ui uN uF uW uB ubw ubu ubd ucm ucw ucf) H → va_D A (kModel kI uo ur ux ut un uf uw ub uR uk uX ul uT ui uN uF uW uB ubw ubu ubd ucm ucw ucf) → va_S A s.heap H locs → W p l e ({ frames := 3, cells := 0, slots := 0, locals := 69 }) s m args below meth c H locs 0 0 Q (F0 m 4 ls [])) (hJ17 : ∀ (x2 : Int32) (x3 : Int32) (x4 : Int32), J17 x2 x3 x4 → ∀ (ls : Array Slot) (H : Heap) (locs : List Loc), lv_has ls 6 [(0, .ref uo), (1, .int a1), (2, .int x2), (3, .int x3), (4, .int x4)] → va_P (dC, dI) vwCl (kModel kI uo ur ux ut un uf uw ub uR uk uX ul uT ui uN uF uW uB ubw ubu ubd ucm ucw ucf) H → va_D A (kModel kI uo ur ux ut un uf uw ub uR uk uX ul uT ui uN uF uW uB ubw ubu ubd ucm ucw ucf) → va_S A s.heap H locs → W p l e ({ frames := 3, cells := 0, slots := 0, locals := 69 }) s m args below meth c H locs 0 0 Q (F0 m 17 ls [])), ∀ (x2 : Int32) (x3 : Int32) (x4 : Int32) (t0 : Int32), K_X7_envies_45 uR a1 Z J4 J17 x2 x3 x4 t0 → ∀ (ls : Array Slot) (H : Heap) (locs : List Loc), lv_has ls 6 [(0, .ref uo), (1, .int a1), (2, .int x2), (3, .int x3), (4, .int x4)] → va_P (dC, dI) vwCl (kModel kI uo ur ux ut un uf uw ub uR uk uX ul uT ui uN uF uW uB ubw ubu ubd ucm ucw ucf) H → va_D A (kModel kI uo ur ux ut un uf uw ub uR uk uX ul uT ui uN uF uW uB ubw ubu ubd ucm ucw ucf) → va_S A s.heap H locs → W p l e ({ frames := 3, cells := 0, slots := 0, locals := 69 }) s m args below meth c H locs 0 0 Q (F0 m 45 ls [.int t0]) := by
    intro J4 J17 hJ4 hJ17 x2 x3 x4 t0 hw ls H locs hl hP hD hS
    unfold K_X7_envies_45 at hw
    refine lv_istore (lv' := [(5, .int t0), (0, .ref uo), (1, .int a1), (2, .int x2), (3, .int x3), (4, .int x4)]) hx hb dX7_envies_45 hl (by decide) rfl (fun ls hl => ?_)
    refine lv_iload_n hx hb dX7_envies_47 rfl (lv_at hl 3 rfl) ?_
    refine lv_iload_n hx hb dX7_envies_48 rfl (lv_at hl 2 rfl) ?_
    refine lv_if_eq (tgt := 57) hx hb dX7_envies_49 (by decide) (fun c_7 => ?_) (fun c_7 => ?_)
    · have hw := hw.1 c_7
      refine lv_iload hx hb dX7_envies_57 (lv_at hl 0 rfl) ?_
      refine lv_if_le (tgt := 66) hx hb dX7_envies_59 (by decide) (fun c_8 => ?_) (fun c_8 => ?_)
      · have hw := hw.1 c_8
        refine lv_iconst (v := (0 : Int32)) hx hb dX7_envies_66 (by decide) ?_
        refine lv_iadd hx hb dX7_envies_67 ?_
        refine lv_istore_n (lv' := [(2, .int (x2 + (0 : Int32))), (5, .int t0), (0, .ref uo), (1, .int a1), (3, .int x3), (4, .int x4)]) hx hb dX7_envies_68 rfl hl (by decide) rfl (fun ls hl => ?_)
        refine lv_iinc (v := (x4 + (1 : Int32))) (lv' := [(4, .int (x4 + (1 : Int32))), (2, .int (x2 + (0 : Int32))), (5, .int t0), (0, .ref uo), (1, .int a1), (3, .int x3)]) hx hb dX7_envies_69 hl (k := 5) rfl (by first | rfl | decide) (by decide) rfl (fun ls hl => ?_)
        refine lv_goto (tgt := 17) hx hb dX7_envies_72 (by decide) ?_
        exact hJ17 (x2 + (0 : Int32)) x3 (x4 + (1 : Int32)) hw ls _ _ (lv_sub hl [3, 4, 1, 5, 0] rfl) hP hD hS
      · have hw := hw.2 c_8
        refine lv_iconst (v := (1 : Int32)) hx hb dX7_envies_62 (by decide) ?_
        refine lv_goto (tgt := 67) hx hb dX7_envies_63 (by decide) ?_
        refine lv_iadd hx hb dX7_envies_67 ?_
        refine lv_istore_n (lv' := [(2, .int (x2 + (1 : Int32))), (5, .int t0), (0, .ref uo), (1, .int a1), (3, .int x3), (4, .int x4)]) hx hb dX7_envies_68 rfl hl (by decide) rfl (fun ls hl => ?_)
        refine lv_iinc (v := (x4 + (1 : Int32))) (lv' := [(4, .int (x4 + (1 : Int32))), (2, .int (x2 + (1 : Int32))), (5, .int t0), (0, .ref uo), (1, .int a1), (3, .int x3)]) hx hb dX7_envies_69 hl (k := 5) rfl (by first | rfl | decide) (by decide) rfl (fun ls hl => ?_)
        refine lv_goto (tgt := 17) hx hb dX7_envies_72 (by decide) ?_
        exact hJ17 (x2 + (1 : Int32)) x3 (x4 + (1 : Int32)) hw ls _ _ (lv_sub hl [3, 4, 1, 5, 0] rfl) hP hD hS
    · have hw := hw.2 c_7
      refine lv_iload hx hb dX7_envies_52 (lv_at hl 0 rfl) ?_
      refine lv_goto (tgt := 67) hx hb dX7_envies_54 (by decide) ?_
      refine lv_iadd hx hb dX7_envies_67 ?_
      refine lv_istore_n (lv' := [(2, .int (x2 + t0)), (5, .int t0), (0, .ref uo), (1, .int a1), (3, .int x3), (4, .int x4)]) hx hb dX7_envies_68 rfl hl (by decide) rfl (fun ls hl => ?_)
      refine lv_iinc (v := (x4 + (1 : Int32))) (lv' := [(4, .int (x4 + (1 : Int32))), (2, .int (x2 + t0)), (5, .int t0), (0, .ref uo), (1, .int a1), (3, .int x3)]) hx hb dX7_envies_69 hl (k := 5) rfl (by first | rfl | decide) (by decide) rfl (fun ls hl => ?_)
      refine lv_goto (tgt := 17) hx hb dX7_envies_72 (by decide) ?_
      exact hJ17 (x2 + t0) x3 (x4 + (1 : Int32)) hw ls _ _ (lv_sub hl [3, 4, 1, 5, 0] rfl) hP hD hS
  have key : ∀ (J4 : Int32 → Int32 → Prop) (J17 : Int32 → Int32 → Int32 → Prop) (hJ4 : ∀ (x2 : Int32) (x3 : Int32), J4 x2 x3 → ∀ (ls : Array Slot) (H : Heap) (locs : List Loc), lv_has ls 6 [(0, .ref uo), (1, .int a1), (2, .int x2), (3, .int x3)] → va_P (dC, dI) vwCl (kModel kI uo ur ux ut un uf uw ub uR uk uX ul uT ui uN uF uW uB ubw ubu ubd ucm ucw ucf) H → va_D A (kModel kI uo ur ux ut un uf uw ub uR uk uX ul uT ui uN uF uW uB ubw ubu ubd ucm ucw ucf) → va_S A s.heap H locs → W p l e ({ frames := 3, cells := 0, slots := 0, locals := 69 }) s m args below meth c H locs 0 0 Q (F0 m 4 ls [])) (hJ17 : ∀ (x2 : Int32) (x3 : Int32) (x4 : Int32), J17 x2 x3 x4 → ∀ (ls : Array Slot) (H : Heap) (locs : List Loc), lv_has ls 6 [(0, .ref uo), (1, .int a1), (2, .int x2), (3, .int x3), (4, .int x4)] → va_P (dC, dI) vwCl (kModel kI uo ur ux ut un uf uw ub uR uk uX ul uT ui uN uF uW uB ubw ubu ubd ucm ucw ucf) H → va_D A (kModel kI uo ur ux ut un uf uw ub uR uk uX ul uT ui uN uF uW uB ubw ubu ubd ucm ucw ucf) → va_S A s.heap H locs → W p l e ({ frames := 3, cells := 0, slots := 0, locals := 69 }) s m args below meth c H locs 0 0 Q (F0 m 17 ls [])), (∀ (x2 : Int32) (x3 : Int32), B_X7_envies_4 uR a1 Z J4 J17 x2 x3 → ∀ (ls : Array Slot) (H : Heap) (locs : List Loc), lv_has ls 6 [(0, .ref uo), (1, .int a1), (2, .int x2), (3, .int x3)] → va_P (dC, dI) vwCl (kModel kI uo ur ux ut un uf uw ub uR uk uX ul uT ui uN uF uW uB ubw ubu ubd ucm ucw ucf) H → va_D A (kModel kI uo ur ux ut un uf uw ub uR uk uX ul uT ui uN uF uW uB ubw ubu ubd ucm ucw ucf) → va_S A s.heap H locs → W p l e ({ frames := 3, cells := 0, slots := 0, locals := 69 }) s m args below meth c H locs 0 0 Q (F0 m 4 ls [])) ∧ (∀ (x2 : Int32) (x3 : Int32) (x4 : Int32), B_X7_envies_17 uR a1 Z J4 J17 x2 x3 x4 → ∀ (ls : Array Slot) (H : Heap) (locs : List Loc), lv_has ls 6 [(0, .ref uo), (1, .int a1), (2, .int x2), (3, .int x3), (4, .int x4)] → va_P (dC, dI) vwCl (kModel kI uo ur ux ut un uf uw ub uR uk uX ul uT ui uN uF uW uB ubw ubu ubd ucm ucw ucf) H → va_D A (kModel kI uo ur ux ut un uf uw ub uR uk uX ul uT ui uN uF uW uB ubw ubu ubd ucm ucw ucf) → va_S A s.heap H locs → W p l e ({ frames := 3, cells := 0, slots := 0, locals := 69 }) s m args below meth c H locs 0 0 Q (F0 m 17 ls [])) := by
    intro J4 J17 hJ4 hJ17
    refine ⟨?_, ?_⟩
    · intro x2 x3 hw ls H locs hl hP hD hS
      unfold B_X7_envies_4 at hw
      refine lv_iload_n hx hb dX7_envies_4 rfl (lv_at hl 3 rfl) ?_
      refine lv_aload_n hx hb dX7_envies_5 rfl (lv_at hl 0 rfl) ?_
      refine va_get (D := (dC, dI)) (ci := 7) (v := .ref ur) (C := RX7) (T := TX7) (N := 16) hx hb hts in_X7_envies_X7 hown hK hP 0 rfl rfl 0 (by decide) (hts (.fieldLink RX7 7 "CakeMarksModel" "row" "[I") (List.mem_of_getElem? (i := 1) rfl)) (fun _ h9 => h9) rfl dX7_envies_6 ?_
      refine lv_iconst (v := (0 : Int32)) hx hb dX7_envies_9 (by decide) ?_
      obtain ⟨h_1, hw⟩ := hw
      refine va_iald hx hb hK hP 1 0 rfl rfl h_1 dX7_envies_10 ?_
      refine lv_icmp_ge (tgt := 81) hx hb dX7_envies_11 (by decide) (fun c_2 => ?_) (fun c_2 => ?_)
      · have hw := hw.1 c_2
        refine lv_iload_n hx hb dX7_envies_81 rfl (lv_at hl 2 rfl) ?_
        exact hret 82 x2 () _ _ _ (fun h => absurd h (by decide)) hw hP hD hS dX7_envies_82
      · have hw := hw.2 c_2
        refine lv_iconst (v := (0 : Int32)) hx hb dX7_envies_14 (by decide) ?_
        refine lv_istore (lv' := [(4, .int (0 : Int32)), (0, .ref uo), (1, .int a1), (2, .int x2), (3, .int x3)]) hx hb dX7_envies_15 hl (by decide) rfl (fun ls hl => ?_)
        exact hJ17 x2 x3 (0 : Int32) hw ls _ _ (lv_sub hl [1, 2, 3, 4, 0] rfl) hP hD hS
    · intro x2 x3 x4 hw ls H locs hl hP hD hS
      unfold B_X7_envies_17 at hw
      refine lv_iload hx hb dX7_envies_17 (lv_at hl 4 rfl) ?_
      refine lv_aload_n hx hb dX7_envies_19 rfl (lv_at hl 0 rfl) ?_
      refine va_get (D := (dC, dI)) (ci := 7) (v := .ref ur) (C := RX7) (T := TX7) (N := 16) hx hb hts in_X7_envies_X7 hown hK hP 0 rfl rfl 0 (by decide) (hts (.fieldLink RX7 7 "CakeMarksModel" "row" "[I") (List.mem_of_getElem? (i := 1) rfl)) (fun _ h9 => h9) rfl dX7_envies_20 ?_
      refine lv_iconst (v := (0 : Int32)) hx hb dX7_envies_23 (by decide) ?_
      obtain ⟨h_3, hw⟩ := hw
      refine va_iald hx hb hK hP 1 0 rfl rfl h_3 dX7_envies_24 ?_
      refine lv_icmp_ge (tgt := 75) hx hb dX7_envies_25 (by decide) (fun c_4 => ?_) (fun c_4 => ?_)
      · have hw := hw.1 c_4
        refine lv_iinc (v := (x3 + (1 : Int32))) (lv' := [(3, .int (x3 + (1 : Int32))), (0, .ref uo), (1, .int a1), (2, .int x2), (4, .int x4)]) hx hb dX7_envies_75 hl (k := 3) rfl (by first | rfl | decide) (by decide) rfl (fun ls hl => ?_)
        refine lv_goto (tgt := 4) hx hb dX7_envies_78 (by decide) ?_
        exact hJ4 x2 (x3 + (1 : Int32)) hw ls _ _ (lv_sub hl [1, 2, 3, 0] rfl) hP hD hS
      · have hw := hw.2 c_4
        refine lv_iload_n hx hb dX7_envies_28 rfl (lv_at hl 3 rfl) ?_
        refine lv_iload hx hb dX7_envies_29 (lv_at hl 4 rfl) ?_
        refine lv_icmp_ne (tgt := 38) hx hb dX7_envies_31 (by decide) (fun c_5 => ?_) (fun c_5 => ?_)
        · have hw := hw.1 c_5
          refine lv_aload_n hx hb dX7_envies_38 rfl (lv_at hl 0 rfl) ?_
          refine lv_iload_n hx hb dX7_envies_39 rfl (lv_at hl 3 rfl) ?_
          refine lv_iload hx hb dX7_envies_40 (lv_at hl 4 rfl) ?_
          refine zcallI (ci := 7) (q0 := 0) (As := [.int x3, .int x4]) (rest := []) (wr := ([] : va_W)) (Wn := fun u => (kModel kI uo ur ux ut un uf uw ub uR uk uX ul uT ui uN uF uW uB ubw ubu ubd ucm ucw ucf)) ⟨hx, hb, hml, hown, hts⟩ (c_X7_envyOf l dC dI kI kA kC uo ur ux ut un uf uw ub _ uR uk uX ul uT ui uN uF uW uB ubw ubu ubd ucm ucw ucf x3 x4 _ hw) (cwV 2 hts gX7_envies_X7_envyOf rfl rfl rfl (by decide +kernel) ⟨Nat.le_of_ble_eq_true rfl, Nat.le_of_ble_eq_true rfl⟩) hK hP hD hS hA [0, 1, 2, 3, 4, 5, 6, 7] [] [0, 1, 2, 3, 4, 5, 6, 7] rfl rfl (by decide) (by decide) (by decide) (fun u => rfl) (by decide) rfl rfl rfl rfl hl.1 rfl (Nat.le_of_ble_eq_true rfl) dX7_envies_42 ⟨Nat.zero_le _, Nat.zero_le _⟩ (fun r_6 u H locs hw hP hD hS => ?_)
          have hP : va_P (dC, dI) vwCl (kModel kI uo ur ux ut un uf uw ub uR uk uX ul uT ui uN uF uW uB ubw ubu ubd ucm ucw ucf) H := hP
          have hD : va_D A (kModel kI uo ur ux ut un uf uw ub uR uk uX ul uT ui uN uF uW uB ubw ubu ubd ucm ucw ucf) := hD
          exact k_45 _ _ hJ4 hJ17 x2 x3 x4 r_6 hw ls _ _ (lv_sub hl [0, 1, 2, 3, 4] rfl) hP hD hS
        · have hw := hw.2 c_5
          refine lv_iconst (v := (0 : Int32)) hx hb dX7_envies_34 (by decide) ?_
          refine lv_goto (tgt := 45) hx hb dX7_envies_35 (by decide) ?_
          exact k_45 _ _ hJ4 hJ17 x2 x3 x4 (0 : Int32) hw ls _ _ (lv_sub hl [0, 1, 2, 3, 4] rfl) hP hD hS
  have hJ4 : ∀ (x2 : Int32) (x3 : Int32), Wp_X7_envies_4 uR a1 Z x2 x3 → ∀ (ls : Array Slot) (H : Heap) (locs : List Loc), lv_has ls 6 [(0, .ref uo), (1, .int a1), (2, .int x2), (3, .int x3)] → va_P (dC, dI) vwCl (kModel kI uo ur ux ut un uf uw ub uR uk uX ul uT ui uN uF uW uB ubw ubu ubd ucm ucw ucf) H → va_D A (kModel kI uo ur ux ut un uf uw ub uR uk uX ul uT ui uN uF uW uB ubw ubu ubd ucm ucw ucf) → va_S A s.heap H locs → W p l e ({ frames := 3, cells := 0, slots := 0, locals := 69 }) s m args below meth c H locs 0 0 Q (F0 m 4 ls []) := fun x2 x3 hv => hv (fun x2 x3 => ∀ (ls : Array Slot) (H : Heap) (locs : List Loc), lv_has ls 6 [(0, .ref uo), (1, .int a1), (2, .int x2), (3, .int x3)] → va_P (dC, dI) vwCl (kModel kI uo ur ux ut un uf uw ub uR uk uX ul uT ui uN uF uW uB ubw ubu ubd ucm ucw ucf) H → va_D A (kModel kI uo ur ux ut un uf uw ub uR uk uX ul uT ui uN uF uW uB ubw ubu ubd ucm ucw ucf) → va_S A s.heap H locs → W p l e ({ frames := 3, cells := 0, slots := 0, locals := 69 }) s m args below meth c H locs 0 0 Q (F0 m 4 ls [])) (fun x2 x3 x4 => ∀ (ls : Array Slot) (H : Heap) (locs : List Loc), lv_has ls 6 [(0, .ref uo), (1, .int a1), (2, .int x2), (3, .int x3), (4, .int x4)] → va_P (dC, dI) vwCl (kModel kI uo ur ux ut un uf uw ub uR uk uX ul uT ui uN uF uW uB ubw ubu ubd ucm ucw ucf) H → va_D A (kModel kI uo ur ux ut un uf uw ub uR uk uX ul uT ui uN uF uW uB ubw ubu ubd ucm ucw ucf) → va_S A s.heap H locs → W p l e ({ frames := 3, cells := 0, slots := 0, locals := 69 }) s m args below meth c H locs 0 0 Q (F0 m 17 ls [])) (fun J4 J17 q4 q17 => (key J4 J17 q4 q17).1) (fun J4 J17 q4 q17 => (key J4 J17 q4 q17).2)
  have hJ17 : ∀ (x2 : Int32) (x3 : Int32) (x4 : Int32), Wp_X7_envies_17 uR a1 Z x2 x3 x4 → ∀ (ls : Array Slot) (H : Heap) (locs : List Loc), lv_has ls 6 [(0, .ref uo), (1, .int a1), (2, .int x2), (3, .int x3), (4, .int x4)] → va_P (dC, dI) vwCl (kModel kI uo ur ux ut un uf uw ub uR uk uX ul uT ui uN uF uW uB ubw ubu ubd ucm ucw ucf) H → va_D A (kModel kI uo ur ux ut un uf uw ub uR uk uX ul uT ui uN uF uW uB ubw ubu ubd ucm ucw ucf) → va_S A s.heap H locs → W p l e ({ frames := 3, cells := 0, slots := 0, locals := 69 }) s m args below meth c H locs 0 0 Q (F0 m 17 ls []) := fun x2 x3 x4 hv => hv (fun x2 x3 => ∀ (ls : Array Slot) (H : Heap) (locs : List Loc), lv_has ls 6 [(0, .ref uo), (1, .int a1), (2, .int x2), (3, .int x3)] → va_P (dC, dI) vwCl (kModel kI uo ur ux ut un uf uw ub uR uk uX ul uT ui uN uF uW uB ubw ubu ubd ucm ucw ucf) H → va_D A (kModel kI uo ur ux ut un uf uw ub uR uk uX ul uT ui uN uF uW uB ubw ubu ubd ucm ucw ucf) → va_S A s.heap H locs → W p l e ({ frames := 3, cells := 0, slots := 0, locals := 69 }) s m args below meth c H locs 0 0 Q (F0 m 4 ls [])) (fun x2 x3 x4 => ∀ (ls : Array Slot) (H : Heap) (locs : List Loc), lv_has ls 6 [(0, .ref uo), (1, .int a1), (2, .int x2), (3, .int x3), (4, .int x4)] → va_P (dC, dI) vwCl (kModel kI uo ur ux ut un uf uw ub uR uk uX ul uT ui uN uF uW uB ubw ubu ubd ucm ucw ucf) H → va_D A (kModel kI uo ur ux ut un uf uw ub uR uk uX ul uT ui uN uF uW uB ubw ubu ubd ucm ucw ucf) → va_S A s.heap H locs → W p l e ({ frames := 3, cells := 0, slots := 0, locals := 69 }) s m args below meth c H locs 0 0 Q (F0 m 17 ls [])) (fun J4 J17 q4 q17 => (key J4 J17 q4 q17).1) (fun J4 J17 q4 q17 => (key J4 J17 q4 q17).2)
  unfold Wp_X7_envies at hw
  refine lv_iconst (v := (0 : Int32)) hx hb dX7_envies_0 (by decide) ?_
  refine lv_istore_n (lv' := [(2, .int (0 : Int32)), (0, .ref uo), (1, .int a1)]) hx hb dX7_envies_1 rfl hl (by decide) rfl (fun ls hl => ?_)
  refine lv_iconst (v := (0 : Int32)) hx hb dX7_envies_2 (by decide) ?_
  refine lv_istore_n (lv' := [(3, .int (0 : Int32)), (2, .int (0 : Int32)), (0, .ref uo), (1, .int a1)]) hx hb dX7_envies_3 rfl hl (by decide) rfl (fun ls hl => ?_)
  exact hJ4 (0 : Int32) (0 : Int32) hw ls _ _ (lv_sub hl [2, 3, 1, 0] rfl) hP hD hS
-- CakeMarksModel.served()I
def B_X7_served_4 (uR : Nat → Int32) (Z : Int32 → Prop) (J4 : Int32 → Int32 → Prop) (x1 : Int32) (x2 : Int32) : Prop := (vp_in (0 : Int32) 847 ∧ (((uR (0 : Int32).toNatClampNeg) ≤ x2 → (Z x1)) ∧ (¬ (uR (0 : Int32).toNatClampNeg) ≤ x2 → (Wp_X7_total uR x2 (fun r_3 => ((r_3 ≤ (0 : Int32) → (J4 (x1 + (0 : Int32)) (x2 + (1 : Int32)))) ∧ (¬ r_3 ≤ (0 : Int32) → (Wp_X7_pieceValue uR x2 x2 (fun r_5 => (Wp_X7_total uR x2 (fun r_6 => ((((uR (0 : Int32).toNatClampNeg) * r_5) < r_6 → (J4 (x1 + (0 : Int32)) (x2 + (1 : Int32)))) ∧ (¬ ((uR (0 : Int32).toNatClampNeg) * r_5) < r_6 → (J4 (x1 + (1 : Int32)) (x2 + (1 : Int32))))))))))))))))
def Wp_X7_served_4 (uR : Nat → Int32) (Z : Int32 → Prop) (x1 : Int32) (x2 : Int32) : Prop := ∀ (I4 : Int32 → Int32 → Prop), (∀ (J4 : Int32 → Int32 → Prop), (∀ (x1 : Int32) (x2 : Int32), J4 x1 x2 → I4 x1 x2) → ∀ (x1 : Int32) (x2 : Int32), B_X7_served_4 uR Z J4 x1 x2 → I4 x1 x2) → I4 x1 x2
theorem F_X7_served_4 (uR : Nat → Int32) (Z : Int32 → Prop) (x1 : Int32) (x2 : Int32) (h : B_X7_served_4 uR Z (Wp_X7_served_4 uR Z) x1 x2) : Wp_X7_served_4 uR Z x1 x2 := fun I4 h4 => h4 _ (fun x1 x2 hx => hx I4 h4) x1 x2 h
def Wp_X7_served (uR : Nat → Int32) (Z : Int32 → Prop) : Prop := ((Wp_X7_served_4 uR Z) (0 : Int32) (0 : Int32))
theorem in_X7_served_X7 : ∀ w ∈ u_ws RX7 TX7 16, w ∈ wsX7_served := fun w h => List.mem_cons_of_mem _ (List.mem_append_right _ h)
set_option maxHeartbeats 20000000 in
set_option maxRecDepth 100000 in
theorem c_X7_served (l : Launch) (dC : Nat → ClassId) (dI : Nat → Nat → Nat) (kI kA kC : ClassId) (uo : Nat) (ur : Nat) (ux : Nat) (ut : Nat) (un : Nat) (uf : Nat) (uw : Nat) (ub : Nat) (sz : Nat) (uR : Nat → Int32) (uk : Int32) (uX : Nat → Int32) (ul : Int32) (uT : Nat → Int32) (ui : Int32) (uN : Nat → Int32) (uF : Nat → Int32) (uW : Nat → Int32) (uB : Nat → Int32) (ubw : Int32) (ubu : Int32) (ubd : Int32) (ucm : Int32) (ucw : Int32) (ucf : Int32) (Z : Int32 → Prop) (hw : Wp_X7_served uR Z) : zI l yX7_served wsX7_served ({ frames := 3, cells := 0, slots := 0, locals := 68 }) dC dI kI kA kC sz 0 0 [.ref uo] (kModel kI uo ur ux ut un uf uw ub uR uk uX ul uT ui uN uF uW uB ubw ubu ubd ucm ucw ucf) (fun (r : Int32) (u : Unit) => Z r ) (fun (u : Unit) => (kModel kI uo ur ux ut un uf uw ub uR uk uX ul uT ui uN uF uW uB ubw ubu ubd ucm ucw ucf)) := by
  refine zI.of (cc := cX7_served) (maxL := 3) (ty := .int) (by decide) rfl (Nat.le_of_ble_eq_true rfl) (Or.inl rfl) ?_
  intro p e s m args below meth c A Q C0 hret ls hl
  obtain ⟨hx, hb, hr, hml, hts, hown, hin, hP, hK, hD, hA, hS⟩ := C0
  have hown : s.vm.findClass RX7 = some m.cls := hown
  have hl : lv_has ls 3 [(0, .ref uo)] := hl
  have key : ∀ (J4 : Int32 → Int32 → Prop) (hJ4 : ∀ (x1 : Int32) (x2 : Int32), J4 x1 x2 → ∀ (ls : Array Slot) (H : Heap) (locs : List Loc), lv_has ls 3 [(0, .ref uo), (1, .int x1), (2, .int x2)] → va_P (dC, dI) vwCl (kModel kI uo ur ux ut un uf uw ub uR uk uX ul uT ui uN uF uW uB ubw ubu ubd ucm ucw ucf) H → va_D A (kModel kI uo ur ux ut un uf uw ub uR uk uX ul uT ui uN uF uW uB ubw ubu ubd ucm ucw ucf) → va_S A s.heap H locs → W p l e ({ frames := 3, cells := 0, slots := 0, locals := 68 }) s m args below meth c H locs 0 0 Q (F0 m 4 ls [])), (∀ (x1 : Int32) (x2 : Int32), B_X7_served_4 uR Z J4 x1 x2 → ∀ (ls : Array Slot) (H : Heap) (locs : List Loc), lv_has ls 3 [(0, .ref uo), (1, .int x1), (2, .int x2)] → va_P (dC, dI) vwCl (kModel kI uo ur ux ut un uf uw ub uR uk uX ul uT ui uN uF uW uB ubw ubu ubd ucm ucw ucf) H → va_D A (kModel kI uo ur ux ut un uf uw ub uR uk uX ul uT ui uN uF uW uB ubw ubu ubd ucm ucw ucf) → va_S A s.heap H locs → W p l e ({ frames := 3, cells := 0, slots := 0, locals := 68 }) s m args below meth c H locs 0 0 Q (F0 m 4 ls [])) := by
    intro J4 hJ4
    · intro x1 x2 hw ls H locs hl hP hD hS
      unfold B_X7_served_4 at hw
      refine lv_iload_n hx hb dX7_served_4 rfl (lv_at hl 2 rfl) ?_
      refine lv_aload_n hx hb dX7_served_5 rfl (lv_at hl 0 rfl) ?_
      refine va_get (D := (dC, dI)) (ci := 7) (v := .ref ur) (C := RX7) (T := TX7) (N := 16) hx hb hts in_X7_served_X7 hown hK hP 0 rfl rfl 0 (by decide) (hts (.fieldLink RX7 7 "CakeMarksModel" "row" "[I") (List.mem_of_getElem? (i := 1) rfl)) (fun _ h9 => h9) rfl dX7_served_6 ?_
      refine lv_iconst (v := (0 : Int32)) hx hb dX7_served_9 (by decide) ?_
      obtain ⟨h_1, hw⟩ := hw
      refine va_iald hx hb hK hP 1 0 rfl rfl h_1 dX7_served_10 ?_
      refine lv_icmp_ge (tgt := 57) hx hb dX7_served_11 (by decide) (fun c_2 => ?_) (fun c_2 => ?_)
      · have hw := hw.1 c_2
        refine lv_iload_n hx hb dX7_served_57 rfl (lv_at hl 1 rfl) ?_
        exact hret 58 x1 () _ _ _ (fun h => absurd h (by decide)) hw hP hD hS dX7_served_58
      · have hw := hw.2 c_2
        refine lv_iload_n hx hb dX7_served_14 rfl (lv_at hl 1 rfl) ?_
        refine lv_aload_n hx hb dX7_served_15 rfl (lv_at hl 0 rfl) ?_
        refine lv_iload_n hx hb dX7_served_16 rfl (lv_at hl 2 rfl) ?_
        refine zcallI (ci := 7) (q0 := 0) (As := [.int x2]) (rest := [.int x1]) (wr := ([] : va_W)) (Wn := fun u => (kModel kI uo ur ux ut un uf uw ub uR uk uX ul uT ui uN uF uW uB ubw ubu ubd ucm ucw ucf)) ⟨hx, hb, hml, hown, hts⟩ (c_X7_total l dC dI kI kA kC uo ur ux ut un uf uw ub _ uR uk uX ul uT ui uN uF uW uB ubw ubu ubd ucm ucw ucf x2 _ hw) (cwV 1 hts gX7_served_X7_total rfl rfl rfl (by decide +kernel) ⟨Nat.le_of_ble_eq_true rfl, Nat.le_of_ble_eq_true rfl⟩) hK hP hD hS hA [0, 1, 2, 3, 4, 5, 6, 7] [] [0, 1, 2, 3, 4, 5, 6, 7] rfl rfl (by decide) (by decide) (by decide) (fun u => rfl) (by decide) rfl rfl rfl rfl hl.1 rfl (Nat.le_of_ble_eq_true rfl) dX7_served_17 ⟨Nat.zero_le _, Nat.zero_le _⟩ (fun r_3 u H locs hw hP hD hS => ?_)
        have hP : va_P (dC, dI) vwCl (kModel kI uo ur ux ut un uf uw ub uR uk uX ul uT ui uN uF uW uB ubw ubu ubd ucm ucw ucf) H := hP
        have hD : va_D A (kModel kI uo ur ux ut un uf uw ub uR uk uX ul uT ui uN uF uW uB ubw ubu ubd ucm ucw ucf) := hD
        refine lv_if_le (tgt := 48) hx hb dX7_served_20 (by decide) (fun c_4 => ?_) (fun c_4 => ?_)
        · have hw := hw.1 c_4
          refine lv_iconst (v := (0 : Int32)) hx hb dX7_served_48 (by decide) ?_
          refine lv_iadd hx hb dX7_served_49 ?_
          refine lv_istore_n (lv' := [(1, .int (x1 + (0 : Int32))), (0, .ref uo), (2, .int x2)]) hx hb dX7_served_50 rfl hl (by decide) rfl (fun ls hl => ?_)
          refine lv_iinc (v := (x2 + (1 : Int32))) (lv' := [(2, .int (x2 + (1 : Int32))), (1, .int (x1 + (0 : Int32))), (0, .ref uo)]) hx hb dX7_served_51 hl (k := 2) rfl (by first | rfl | decide) (by decide) rfl (fun ls hl => ?_)
          refine lv_goto (tgt := 4) hx hb dX7_served_54 (by decide) ?_
          exact hJ4 (x1 + (0 : Int32)) (x2 + (1 : Int32)) hw ls _ _ (lv_sub hl [2, 1, 0] rfl) hP hD hS
        · have hw := hw.2 c_4
          refine lv_aload_n hx hb dX7_served_23 rfl (lv_at hl 0 rfl) ?_
          refine va_get (D := (dC, dI)) (ci := 7) (v := .ref ur) (C := RX7) (T := TX7) (N := 16) hx hb hts in_X7_served_X7 hown hK hP 0 rfl rfl 0 (by decide) (hts (.fieldLink RX7 7 "CakeMarksModel" "row" "[I") (List.mem_of_getElem? (i := 1) rfl)) (fun _ h9 => h9) rfl dX7_served_24 ?_
          refine lv_iconst (v := (0 : Int32)) hx hb dX7_served_27 (by decide) ?_
          refine va_iald hx hb hK hP 1 0 rfl rfl h_1 dX7_served_28 ?_
          refine lv_aload_n hx hb dX7_served_29 rfl (lv_at hl 0 rfl) ?_
          refine lv_iload_n hx hb dX7_served_30 rfl (lv_at hl 2 rfl) ?_
          refine lv_iload_n hx hb dX7_served_31 rfl (lv_at hl 2 rfl) ?_
          refine zcallI (ci := 7) (q0 := 0) (As := [.int x2, .int x2]) (rest := [.int (uR (0 : Int32).toNatClampNeg), .int x1]) (wr := ([] : va_W)) (Wn := fun u => (kModel kI uo ur ux ut un uf uw ub uR uk uX ul uT ui uN uF uW uB ubw ubu ubd ucm ucw ucf)) ⟨hx, hb, hml, hown, hts⟩ (c_X7_pieceValue l dC dI kI kA kC uo ur ux ut un uf uw ub _ uR uk uX ul uT ui uN uF uW uB ubw ubu ubd ucm ucw ucf x2 x2 _ hw) (cwV 2 hts gX7_served_X7_pieceValue rfl rfl rfl (by decide +kernel) ⟨Nat.le_of_ble_eq_true rfl, Nat.le_of_ble_eq_true rfl⟩) hK hP hD hS hA [0, 1, 2, 3, 4, 5, 6, 7] [] [0, 1, 2, 3, 4, 5, 6, 7] rfl rfl (by decide) (by decide) (by decide) (fun u => rfl) (by decide) rfl rfl rfl rfl hl.1 rfl (Nat.le_of_ble_eq_true rfl) dX7_served_32 ⟨Nat.zero_le _, Nat.zero_le _⟩ (fun r_5 u H locs hw hP hD hS => ?_)
          have hP : va_P (dC, dI) vwCl (kModel kI uo ur ux ut un uf uw ub uR uk uX ul uT ui uN uF uW uB ubw ubu ubd ucm ucw ucf) H := hP
          have hD : va_D A (kModel kI uo ur ux ut un uf uw ub uR uk uX ul uT ui uN uF uW uB ubw ubu ubd ucm ucw ucf) := hD
          refine lv_imul hx hb dX7_served_35 ?_
          refine lv_aload_n hx hb dX7_served_36 rfl (lv_at hl 0 rfl) ?_
          refine lv_iload_n hx hb dX7_served_37 rfl (lv_at hl 2 rfl) ?_
          refine zcallI (ci := 7) (q0 := 0) (As := [.int x2]) (rest := [.int ((uR (0 : Int32).toNatClampNeg) * r_5), .int x1]) (wr := ([] : va_W)) (Wn := fun u => (kModel kI uo ur ux ut un uf uw ub uR uk uX ul uT ui uN uF uW uB ubw ubu ubd ucm ucw ucf)) ⟨hx, hb, hml, hown, hts⟩ (c_X7_total l dC dI kI kA kC uo ur ux ut un uf uw ub _ uR uk uX ul uT ui uN uF uW uB ubw ubu ubd ucm ucw ucf x2 _ hw) (cwV 1 hts gX7_served_X7_total rfl rfl rfl (by decide +kernel) ⟨Nat.le_of_ble_eq_true rfl, Nat.le_of_ble_eq_true rfl⟩) hK hP hD hS hA [0, 1, 2, 3, 4, 5, 6, 7] [] [0, 1, 2, 3, 4, 5, 6, 7] rfl rfl (by decide) (by decide) (by decide) (fun u => rfl) (by decide) rfl rfl rfl rfl hl.1 rfl (Nat.le_of_ble_eq_true rfl) dX7_served_38 ⟨Nat.zero_le _, Nat.zero_le _⟩ (fun r_6 u H locs hw hP hD hS => ?_)
          have hP : va_P (dC, dI) vwCl (kModel kI uo ur ux ut un uf uw ub uR uk uX ul uT ui uN uF uW uB ubw ubu ubd ucm ucw ucf) H := hP
          have hD : va_D A (kModel kI uo ur ux ut un uf uw ub uR uk uX ul uT ui uN uF uW uB ubw ubu ubd ucm ucw ucf) := hD
          refine lv_icmp_lt (tgt := 48) hx hb dX7_served_41 (by decide) (fun c_7 => ?_) (fun c_7 => ?_)
          · have hw := hw.1 c_7
            refine lv_iconst (v := (0 : Int32)) hx hb dX7_served_48 (by decide) ?_
            refine lv_iadd hx hb dX7_served_49 ?_
            refine lv_istore_n (lv' := [(1, .int (x1 + (0 : Int32))), (0, .ref uo), (2, .int x2)]) hx hb dX7_served_50 rfl hl (by decide) rfl (fun ls hl => ?_)
            refine lv_iinc (v := (x2 + (1 : Int32))) (lv' := [(2, .int (x2 + (1 : Int32))), (1, .int (x1 + (0 : Int32))), (0, .ref uo)]) hx hb dX7_served_51 hl (k := 2) rfl (by first | rfl | decide) (by decide) rfl (fun ls hl => ?_)
            refine lv_goto (tgt := 4) hx hb dX7_served_54 (by decide) ?_
            exact hJ4 (x1 + (0 : Int32)) (x2 + (1 : Int32)) hw ls _ _ (lv_sub hl [2, 1, 0] rfl) hP hD hS
          · have hw := hw.2 c_7
            refine lv_iconst (v := (1 : Int32)) hx hb dX7_served_44 (by decide) ?_
            refine lv_goto (tgt := 49) hx hb dX7_served_45 (by decide) ?_
            refine lv_iadd hx hb dX7_served_49 ?_
            refine lv_istore_n (lv' := [(1, .int (x1 + (1 : Int32))), (0, .ref uo), (2, .int x2)]) hx hb dX7_served_50 rfl hl (by decide) rfl (fun ls hl => ?_)
            refine lv_iinc (v := (x2 + (1 : Int32))) (lv' := [(2, .int (x2 + (1 : Int32))), (1, .int (x1 + (1 : Int32))), (0, .ref uo)]) hx hb dX7_served_51 hl (k := 2) rfl (by first | rfl | decide) (by decide) rfl (fun ls hl => ?_)
            refine lv_goto (tgt := 4) hx hb dX7_served_54 (by decide) ?_
            exact hJ4 (x1 + (1 : Int32)) (x2 + (1 : Int32)) hw ls _ _ (lv_sub hl [2, 1, 0] rfl) hP hD hS
  have hJ4 : ∀ (x1 : Int32) (x2 : Int32), Wp_X7_served_4 uR Z x1 x2 → ∀ (ls : Array Slot) (H : Heap) (locs : List Loc), lv_has ls 3 [(0, .ref uo), (1, .int x1), (2, .int x2)] → va_P (dC, dI) vwCl (kModel kI uo ur ux ut un uf uw ub uR uk uX ul uT ui uN uF uW uB ubw ubu ubd ucm ucw ucf) H → va_D A (kModel kI uo ur ux ut un uf uw ub uR uk uX ul uT ui uN uF uW uB ubw ubu ubd ucm ucw ucf) → va_S A s.heap H locs → W p l e ({ frames := 3, cells := 0, slots := 0, locals := 68 }) s m args below meth c H locs 0 0 Q (F0 m 4 ls []) := fun x1 x2 hv => hv (fun x1 x2 => ∀ (ls : Array Slot) (H : Heap) (locs : List Loc), lv_has ls 3 [(0, .ref uo), (1, .int x1), (2, .int x2)] → va_P (dC, dI) vwCl (kModel kI uo ur ux ut un uf uw ub uR uk uX ul uT ui uN uF uW uB ubw ubu ubd ucm ucw ucf) H → va_D A (kModel kI uo ur ux ut un uf uw ub uR uk uX ul uT ui uN uF uW uB ubw ubu ubd ucm ucw ucf) → va_S A s.heap H locs → W p l e ({ frames := 3, cells := 0, slots := 0, locals := 68 }) s m args below meth c H locs 0 0 Q (F0 m 4 ls [])) (fun J4 q4 => (key J4 q4))
  unfold Wp_X7_served at hw
  refine lv_iconst (v := (0 : Int32)) hx hb dX7_served_0 (by decide) ?_
  refine lv_istore_n (lv' := [(1, .int (0 : Int32)), (0, .ref uo)]) hx hb dX7_served_1 rfl hl (by decide) rfl (fun ls hl => ?_)
  refine lv_iconst (v := (0 : Int32)) hx hb dX7_served_2 (by decide) ?_
  refine lv_istore_n (lv' := [(2, .int (0 : Int32)), (1, .int (0 : Int32)), (0, .ref uo)]) hx hb dX7_served_3 rfl hl (by decide) rfl (fun ls hl => ?_)
  exact hJ4 (0 : Int32) (0 : Int32) hw ls _ _ (lv_sub hl [2, 1, 0] rfl) hP hD hS
-- CakeMarksModel.count(I)I
def Wp_X7_count (uR : Nat → Int32) (uk : Int32) (ul : Int32) (a1 : Int32) (Z : Int32 → Prop) : Prop := ((a1 = (0 : Int32) → (vp_in (0 : Int32) 847 ∧ (Z (uR (0 : Int32).toNatClampNeg)))) ∧ (a1 = (1 : Int32) → (Wp_X7_onTable uR (fun r_2 => (Z r_2)))) ∧ (a1 = (2 : Int32) → (Wp_X7_envies uR (0 : Int32) (fun r_3 => (Z r_3)))) ∧ (a1 = (3 : Int32) → (Wp_X7_envies uR (1 : Int32) (fun r_4 => (Z r_4)))) ∧ (a1 = (4 : Int32) → (Wp_X7_envies uR (0 : Int32) (fun r_5 => ((¬ r_5 = (0 : Int32) → (Z (0 : Int32))) ∧ (r_5 = (0 : Int32) → (Z (1 : Int32))))))) ∧ (a1 = (5 : Int32) → (Wp_X7_served uR (fun r_7 => (Z r_7)))) ∧ (a1 = (6 : Int32) → (Z uk)) ∧ (a1 = (7 : Int32) → (Z ul)) ∧ ((a1.toInt < 0 ∨ 7 < a1.toInt) → (Z (-1 : Int32))))
theorem in_X7_count_X7 : ∀ w ∈ u_ws RX7 TX7 16, w ∈ wsX7_count := fun w h => List.mem_cons_of_mem _ (List.mem_append_right _ h)
set_option maxHeartbeats 20000000 in
set_option maxRecDepth 100000 in
theorem c_X7_count (l : Launch) (dC : Nat → ClassId) (dI : Nat → Nat → Nat) (kI kA kC : ClassId) (uo : Nat) (ur : Nat) (ux : Nat) (ut : Nat) (un : Nat) (uf : Nat) (uw : Nat) (ub : Nat) (sz : Nat) (uR : Nat → Int32) (uk : Int32) (uX : Nat → Int32) (ul : Int32) (uT : Nat → Int32) (ui : Int32) (uN : Nat → Int32) (uF : Nat → Int32) (uW : Nat → Int32) (uB : Nat → Int32) (ubw : Int32) (ubu : Int32) (ubd : Int32) (ucm : Int32) (ucw : Int32) (ucf : Int32) (a1 : Int32) (Z : Int32 → Prop) (hw : Wp_X7_count uR uk ul a1 Z) : zI l yX7_count wsX7_count ({ frames := 4, cells := 0, slots := 0, locals := 94 }) dC dI kI kA kC sz 0 0 [.ref uo, .int a1] (kModel kI uo ur ux ut un uf uw ub uR uk uX ul uT ui uN uF uW uB ubw ubu ubd ucm ucw ucf) (fun (r : Int32) (u : Unit) => Z r ) (fun (u : Unit) => (kModel kI uo ur ux ut un uf uw ub uR uk uX ul uT ui uN uF uW uB ubw ubu ubd ucm ucw ucf)) := by
  refine zI.of (cc := cX7_count) (maxL := 2) (ty := .int) (by decide) rfl (Nat.le_of_ble_eq_true rfl) (Or.inl rfl) ?_
  intro p e s m args below meth c A Q C0 hret ls hl
  obtain ⟨hx, hb, hr, hml, hts, hown, hin, hP, hK, hD, hA, hS⟩ := C0
  have hown : s.vm.findClass RX7 = some m.cls := hown
  have hl : lv_has ls 2 [(0, .ref uo), (1, .int a1)] := hl
  unfold Wp_X7_count at hw
  refine lv_iload_n hx hb dX7_count_0 rfl (lv_at hl 1 rfl) ?_
  rcases z_sw 7 a1 with c_8 | ⟨k, hk, c_8⟩
  · have hw := hw.2.2.2.2.2.2.2.2 c_8
    refine lv_tableOut (tgt := 101) hx hb dX7_count_1 c_8 (by decide) ?_
    refine lv_iconst (v := (-1 : Int32)) hx hb dX7_count_101 (by decide) ?_
    exact hret 102 (-1 : Int32) () _ _ _ (fun h => absurd h (by decide)) hw hP hD hS dX7_count_102
  · rcases (show k = 0 ∨ k = 1 ∨ k = 2 ∨ k = 3 ∨ k = 4 ∨ k = 5 ∨ k = 6 ∨ k = 7 by omega) with rfl | rfl | rfl | rfl | rfl | rfl | rfl | rfl
    · have c_8 : a1 = (0 : Int32) := c_8
      have hw := hw.1 c_8
      refine lv_tableIn (off := 47) (tgt := 48) hx hb dX7_count_1 (by rw [c_8]; decide) (by rw [c_8]; decide) (by rw [c_8]; decide) (by decide) ?_
      refine lv_aload_n hx hb dX7_count_48 rfl (lv_at hl 0 rfl) ?_
      refine va_get (D := (dC, dI)) (ci := 7) (v := .ref ur) (C := RX7) (T := TX7) (N := 16) hx hb hts in_X7_count_X7 hown hK hP 0 rfl rfl 0 (by decide) (hts (.fieldLink RX7 7 "CakeMarksModel" "row" "[I") (List.mem_of_getElem? (i := 1) rfl)) (fun _ h9 => h9) rfl dX7_count_49 ?_
      refine lv_iconst (v := (0 : Int32)) hx hb dX7_count_52 (by decide) ?_
      obtain ⟨h_1, hw⟩ := hw
      refine va_iald hx hb hK hP 1 0 rfl rfl h_1 dX7_count_53 ?_
      exact hret 54 (uR (0 : Int32).toNatClampNeg) () _ _ _ (fun h => absurd h (by decide)) hw hP hD hS dX7_count_54
    · have c_8 : a1 = (1 : Int32) := c_8
      have hw := hw.2.1 c_8
      refine lv_tableIn (off := 54) (tgt := 55) hx hb dX7_count_1 (by rw [c_8]; decide) (by rw [c_8]; decide) (by rw [c_8]; decide) (by decide) ?_
      refine lv_aload_n hx hb dX7_count_55 rfl (lv_at hl 0 rfl) ?_
      refine zcallI (ci := 7) (q0 := 0) (As := []) (rest := []) (wr := ([] : va_W)) (Wn := fun u => (kModel kI uo ur ux ut un uf uw ub uR uk uX ul uT ui uN uF uW uB ubw ubu ubd ucm ucw ucf)) ⟨hx, hb, hml, hown, hts⟩ (c_X7_onTable l dC dI kI kA kC uo ur ux ut un uf uw ub _ uR uk uX ul uT ui uN uF uW uB ubw ubu ubd ucm ucw ucf _ hw) (cwV 0 hts gX7_count_X7_onTable rfl rfl rfl (by decide +kernel) ⟨Nat.le_of_ble_eq_true rfl, Nat.le_of_ble_eq_true rfl⟩) hK hP hD hS hA [0, 1, 2, 3, 4, 5, 6, 7] [] [0, 1, 2, 3, 4, 5, 6, 7] rfl rfl (by decide) (by decide) (by decide) (fun u => rfl) (by decide) rfl rfl rfl rfl hl.1 rfl (Nat.le_of_ble_eq_true rfl) dX7_count_56 ⟨Nat.zero_le _, Nat.zero_le _⟩ (fun r_2 u H locs hw hP hD hS => ?_)
      have hP : va_P (dC, dI) vwCl (kModel kI uo ur ux ut un uf uw ub uR uk uX ul uT ui uN uF uW uB ubw ubu ubd ucm ucw ucf) H := hP
      have hD : va_D A (kModel kI uo ur ux ut un uf uw ub uR uk uX ul uT ui uN uF uW uB ubw ubu ubd ucm ucw ucf) := hD
      exact hret 59 r_2 () _ _ _ (fun h => absurd h (by decide)) hw hP hD hS dX7_count_59
    · have c_8 : a1 = (2 : Int32) := c_8
      have hw := hw.2.2.1 c_8
      refine lv_tableIn (off := 59) (tgt := 60) hx hb dX7_count_1 (by rw [c_8]; decide) (by rw [c_8]; decide) (by rw [c_8]; decide) (by decide) ?_
      refine lv_aload_n hx hb dX7_count_60 rfl (lv_at hl 0 rfl) ?_
      refine lv_iconst (v := (0 : Int32)) hx hb dX7_count_61 (by decide) ?_
      refine zcallI (ci := 7) (q0 := 0) (As := [.int (0 : Int32)]) (rest := []) (wr := ([] : va_W)) (Wn := fun u => (kModel kI uo ur ux ut un uf uw ub uR uk uX ul uT ui uN uF uW uB ubw ubu ubd ucm ucw ucf)) ⟨hx, hb, hml, hown, hts⟩ (c_X7_envies l dC dI kI kA kC uo ur ux ut un uf uw ub _ uR uk uX ul uT ui uN uF uW uB ubw ubu ubd ucm ucw ucf (0 : Int32) _ hw) (cwV 1 hts gX7_count_X7_envies rfl rfl rfl (by decide +kernel) ⟨Nat.le_of_ble_eq_true rfl, Nat.le_of_ble_eq_true rfl⟩) hK hP hD hS hA [0, 1, 2, 3, 4, 5, 6, 7] [] [0, 1, 2, 3, 4, 5, 6, 7] rfl rfl (by decide) (by decide) (by decide) (fun u => rfl) (by decide) rfl rfl rfl rfl hl.1 rfl (Nat.le_of_ble_eq_true rfl) dX7_count_62 ⟨Nat.zero_le _, Nat.zero_le _⟩ (fun r_3 u H locs hw hP hD hS => ?_)
      have hP : va_P (dC, dI) vwCl (kModel kI uo ur ux ut un uf uw ub uR uk uX ul uT ui uN uF uW uB ubw ubu ubd ucm ucw ucf) H := hP
      have hD : va_D A (kModel kI uo ur ux ut un uf uw ub uR uk uX ul uT ui uN uF uW uB ubw ubu ubd ucm ucw ucf) := hD
      exact hret 65 r_3 () _ _ _ (fun h => absurd h (by decide)) hw hP hD hS dX7_count_65
    · have c_8 : a1 = (3 : Int32) := c_8
      have hw := hw.2.2.2.1 c_8
      refine lv_tableIn (off := 65) (tgt := 66) hx hb dX7_count_1 (by rw [c_8]; decide) (by rw [c_8]; decide) (by rw [c_8]; decide) (by decide) ?_
      refine lv_aload_n hx hb dX7_count_66 rfl (lv_at hl 0 rfl) ?_
      refine lv_iconst (v := (1 : Int32)) hx hb dX7_count_67 (by decide) ?_
      refine zcallI (ci := 7) (q0 := 0) (As := [.int (1 : Int32)]) (rest := []) (wr := ([] : va_W)) (Wn := fun u => (kModel kI uo ur ux ut un uf uw ub uR uk uX ul uT ui uN uF uW uB ubw ubu ubd ucm ucw ucf)) ⟨hx, hb, hml, hown, hts⟩ (c_X7_envies l dC dI kI kA kC uo ur ux ut un uf uw ub _ uR uk uX ul uT ui uN uF uW uB ubw ubu ubd ucm ucw ucf (1 : Int32) _ hw) (cwV 1 hts gX7_count_X7_envies rfl rfl rfl (by decide +kernel) ⟨Nat.le_of_ble_eq_true rfl, Nat.le_of_ble_eq_true rfl⟩) hK hP hD hS hA [0, 1, 2, 3, 4, 5, 6, 7] [] [0, 1, 2, 3, 4, 5, 6, 7] rfl rfl (by decide) (by decide) (by decide) (fun u => rfl) (by decide) rfl rfl rfl rfl hl.1 rfl (Nat.le_of_ble_eq_true rfl) dX7_count_68 ⟨Nat.zero_le _, Nat.zero_le _⟩ (fun r_4 u H locs hw hP hD hS => ?_)
      have hP : va_P (dC, dI) vwCl (kModel kI uo ur ux ut un uf uw ub uR uk uX ul uT ui uN uF uW uB ubw ubu ubd ucm ucw ucf) H := hP
      have hD : va_D A (kModel kI uo ur ux ut un uf uw ub uR uk uX ul uT ui uN uF uW uB ubw ubu ubd ucm ucw ucf) := hD
      exact hret 71 r_4 () _ _ _ (fun h => absurd h (by decide)) hw hP hD hS dX7_count_71
    · have c_8 : a1 = (4 : Int32) := c_8
      have hw := hw.2.2.2.2.1 c_8
      refine lv_tableIn (off := 71) (tgt := 72) hx hb dX7_count_1 (by rw [c_8]; decide) (by rw [c_8]; decide) (by rw [c_8]; decide) (by decide) ?_
      refine lv_aload_n hx hb dX7_count_72 rfl (lv_at hl 0 rfl) ?_
      refine lv_iconst (v := (0 : Int32)) hx hb dX7_count_73 (by decide) ?_
      refine zcallI (ci := 7) (q0 := 0) (As := [.int (0 : Int32)]) (rest := []) (wr := ([] : va_W)) (Wn := fun u => (kModel kI uo ur ux ut un uf uw ub uR uk uX ul uT ui uN uF uW uB ubw ubu ubd ucm ucw ucf)) ⟨hx, hb, hml, hown, hts⟩ (c_X7_envies l dC dI kI kA kC uo ur ux ut un uf uw ub _ uR uk uX ul uT ui uN uF uW uB ubw ubu ubd ucm ucw ucf (0 : Int32) _ hw) (cwV 1 hts gX7_count_X7_envies rfl rfl rfl (by decide +kernel) ⟨Nat.le_of_ble_eq_true rfl, Nat.le_of_ble_eq_true rfl⟩) hK hP hD hS hA [0, 1, 2, 3, 4, 5, 6, 7] [] [0, 1, 2, 3, 4, 5, 6, 7] rfl rfl (by decide) (by decide) (by decide) (fun u => rfl) (by decide) rfl rfl rfl rfl hl.1 rfl (Nat.le_of_ble_eq_true rfl) dX7_count_74 ⟨Nat.zero_le _, Nat.zero_le _⟩ (fun r_5 u H locs hw hP hD hS => ?_)
      have hP : va_P (dC, dI) vwCl (kModel kI uo ur ux ut un uf uw ub uR uk uX ul uT ui uN uF uW uB ubw ubu ubd ucm ucw ucf) H := hP
      have hD : va_D A (kModel kI uo ur ux ut un uf uw ub uR uk uX ul uT ui uN uF uW uB ubw ubu ubd ucm ucw ucf) := hD
      refine lv_if_ne (tgt := 84) hx hb dX7_count_77 (by decide) (fun c_6 => ?_) (fun c_6 => ?_)
      · have hw := hw.1 c_6
        refine lv_iconst (v := (0 : Int32)) hx hb dX7_count_84 (by decide) ?_
        exact hret 85 (0 : Int32) () _ _ _ (fun h => absurd h (by decide)) hw hP hD hS dX7_count_85
      · have hw := hw.2 c_6
        refine lv_iconst (v := (1 : Int32)) hx hb dX7_count_80 (by decide) ?_
        refine lv_goto (tgt := 85) hx hb dX7_count_81 (by decide) ?_
        exact hret 85 (1 : Int32) () _ _ _ (fun h => absurd h (by decide)) hw hP hD hS dX7_count_85
    · have c_8 : a1 = (5 : Int32) := c_8
      have hw := hw.2.2.2.2.2.1 c_8
      refine lv_tableIn (off := 85) (tgt := 86) hx hb dX7_count_1 (by rw [c_8]; decide) (by rw [c_8]; decide) (by rw [c_8]; decide) (by decide) ?_
      refine lv_aload_n hx hb dX7_count_86 rfl (lv_at hl 0 rfl) ?_
      refine zcallI (ci := 7) (q0 := 0) (As := []) (rest := []) (wr := ([] : va_W)) (Wn := fun u => (kModel kI uo ur ux ut un uf uw ub uR uk uX ul uT ui uN uF uW uB ubw ubu ubd ucm ucw ucf)) ⟨hx, hb, hml, hown, hts⟩ (c_X7_served l dC dI kI kA kC uo ur ux ut un uf uw ub _ uR uk uX ul uT ui uN uF uW uB ubw ubu ubd ucm ucw ucf _ hw) (cwV 0 hts gX7_count_X7_served rfl rfl rfl (by decide +kernel) ⟨Nat.le_of_ble_eq_true rfl, Nat.le_of_ble_eq_true rfl⟩) hK hP hD hS hA [0, 1, 2, 3, 4, 5, 6, 7] [] [0, 1, 2, 3, 4, 5, 6, 7] rfl rfl (by decide) (by decide) (by decide) (fun u => rfl) (by decide) rfl rfl rfl rfl hl.1 rfl (Nat.le_of_ble_eq_true rfl) dX7_count_87 ⟨Nat.zero_le _, Nat.zero_le _⟩ (fun r_7 u H locs hw hP hD hS => ?_)
      have hP : va_P (dC, dI) vwCl (kModel kI uo ur ux ut un uf uw ub uR uk uX ul uT ui uN uF uW uB ubw ubu ubd ucm ucw ucf) H := hP
      have hD : va_D A (kModel kI uo ur ux ut un uf uw ub uR uk uX ul uT ui uN uF uW uB ubw ubu ubd ucm ucw ucf) := hD
      exact hret 90 r_7 () _ _ _ (fun h => absurd h (by decide)) hw hP hD hS dX7_count_90
    · have c_8 : a1 = (6 : Int32) := c_8
      have hw := hw.2.2.2.2.2.2.1 c_8
      refine lv_tableIn (off := 90) (tgt := 91) hx hb dX7_count_1 (by rw [c_8]; decide) (by rw [c_8]; decide) (by rw [c_8]; decide) (by decide) ?_
      refine lv_aload_n hx hb dX7_count_91 rfl (lv_at hl 0 rfl) ?_
      refine va_get (D := (dC, dI)) (ci := 7) (v := .int uk) (C := RX7) (T := TX7) (N := 16) hx hb hts in_X7_count_X7 hown hK hP 0 rfl rfl 1 (by decide) (hts (.fieldLink RX7 31 "CakeMarksModel" "kept" "I") (List.mem_of_getElem? (i := 2) rfl)) (fun _ h9 => h9) rfl dX7_count_92 ?_
      exact hret 95 uk () _ _ _ (fun h => absurd h (by decide)) hw hP hD hS dX7_count_95
    · have c_8 : a1 = (7 : Int32) := c_8
      have hw := hw.2.2.2.2.2.2.2.1 c_8
      refine lv_tableIn (off := 95) (tgt := 96) hx hb dX7_count_1 (by rw [c_8]; decide) (by rw [c_8]; decide) (by rw [c_8]; decide) (by decide) ?_
      refine lv_aload_n hx hb dX7_count_96 rfl (lv_at hl 0 rfl) ?_
      refine va_get (D := (dC, dI)) (ci := 7) (v := .int ul) (C := RX7) (T := TX7) (N := 16) hx hb hts in_X7_count_X7 hown hK hP 0 rfl rfl 3 (by decide) (hts (.fieldLink RX7 69 "CakeMarksModel" "length" "I") (List.mem_of_getElem? (i := 3) rfl)) (fun _ h9 => h9) rfl dX7_count_97 ?_
      exact hret 100 ul () _ _ _ (fun h => absurd h (by decide)) hw hP hD hS dX7_count_100
-- CakeMarksModel.divisor(II)I
def B_X7_divisor_4 (a0 : Int32) (a1 : Int32) (Z : Int32 → Prop) (J4 : Int32 → Int32 → Prop) (x2 : Int32) (x3 : Int32) : Prop := ((x3 ≤ (0 : Int32) → (Z x2)) ∧ (¬ x3 ≤ (0 : Int32) → (¬ x3 = (0 : Int32) ∧ (J4 x3 (x2 - x2 / x3 * x3)))))
def Wp_X7_divisor_4 (a0 : Int32) (a1 : Int32) (Z : Int32 → Prop) (x2 : Int32) (x3 : Int32) : Prop := ∀ (I4 : Int32 → Int32 → Prop), (∀ (J4 : Int32 → Int32 → Prop), (∀ (x2 : Int32) (x3 : Int32), J4 x2 x3 → I4 x2 x3) → ∀ (x2 : Int32) (x3 : Int32), B_X7_divisor_4 a0 a1 Z J4 x2 x3 → I4 x2 x3) → I4 x2 x3
theorem F_X7_divisor_4 (a0 : Int32) (a1 : Int32) (Z : Int32 → Prop) (x2 : Int32) (x3 : Int32) (h : B_X7_divisor_4 a0 a1 Z (Wp_X7_divisor_4 a0 a1 Z) x2 x3) : Wp_X7_divisor_4 a0 a1 Z x2 x3 := fun I4 h4 => h4 _ (fun x2 x3 hx => hx I4 h4) x2 x3 h
def Wp_X7_divisor (a0 : Int32) (a1 : Int32) (Z : Int32 → Prop) : Prop := ((Wp_X7_divisor_4 a0 a1 Z) a0 a1)
set_option maxHeartbeats 20000000 in
set_option maxRecDepth 100000 in
theorem c_X7_divisor (l : Launch) (dC : Nat → ClassId) (dI : Nat → Nat → Nat) (kI kA kC : ClassId) (sz : Nat) (a0 : Int32) (a1 : Int32) (Z : Int32 → Prop) (hw : Wp_X7_divisor a0 a1 Z) : zI l yX7_divisor wsX7_divisor ({ frames := 0, cells := 0, slots := 0, locals := 0 }) dC dI kI kA kC sz 0 0 [.int a0, .int a1] ([] : va_W) (fun (r : Int32) (u : Unit) => Z r ) (fun (u : Unit) => ([] : va_W)) := by
  refine zI.of (cc := cX7_divisor) (maxL := 5) (ty := .int) (by decide) rfl (Nat.le_of_ble_eq_true rfl) (Or.inl rfl) ?_
  intro p e s m args below meth c A Q C0 hret ls hl
  obtain ⟨hx, hb, hr, hml, hts, hown, hin, hP, hK, hD, hA, hS⟩ := C0
  have hown : s.vm.findClass RX7 = some m.cls := hown
  have hl : lv_has ls 5 [(0, .int a0), (1, .int a1)] := hl
  have key : ∀ (J4 : Int32 → Int32 → Prop) (hJ4 : ∀ (x2 : Int32) (x3 : Int32), J4 x2 x3 → ∀ (ls : Array Slot) (H : Heap) (locs : List Loc), lv_has ls 5 [(2, .int x2), (3, .int x3)] → va_P (dC, dI) vwCl ([] : va_W) H → va_D A ([] : va_W) → va_S A s.heap H locs → W p l e ({ frames := 0, cells := 0, slots := 0, locals := 0 }) s m args below meth c H locs 0 0 Q (F0 m 4 ls [])), (∀ (x2 : Int32) (x3 : Int32), B_X7_divisor_4 a0 a1 Z J4 x2 x3 → ∀ (ls : Array Slot) (H : Heap) (locs : List Loc), lv_has ls 5 [(2, .int x2), (3, .int x3)] → va_P (dC, dI) vwCl ([] : va_W) H → va_D A ([] : va_W) → va_S A s.heap H locs → W p l e ({ frames := 0, cells := 0, slots := 0, locals := 0 }) s m args below meth c H locs 0 0 Q (F0 m 4 ls [])) := by
    intro J4 hJ4
    · intro x2 x3 hw ls H locs hl hP hD hS
      unfold B_X7_divisor_4 at hw
      refine lv_iload_n hx hb dX7_divisor_4 rfl (lv_at hl 1 rfl) ?_
      refine lv_if_le (tgt := 21) hx hb dX7_divisor_5 (by decide) (fun c_1 => ?_) (fun c_1 => ?_)
      · have hw := hw.1 c_1
        refine lv_iload_n hx hb dX7_divisor_21 rfl (lv_at hl 0 rfl) ?_
        exact hret 22 x2 () _ _ _ (fun h => absurd h (by decide)) hw hP hD hS dX7_divisor_22
      · have hw := hw.2 c_1
        refine lv_iload_n hx hb dX7_divisor_8 rfl (lv_at hl 0 rfl) ?_
        refine lv_iload_n hx hb dX7_divisor_9 rfl (lv_at hl 1 rfl) ?_
        obtain ⟨h_2, hw⟩ := hw
        refine lv_irem hx hb dX7_divisor_10 h_2 ?_
        refine lv_istore (lv' := [(4, .int (x2 - x2 / x3 * x3)), (2, .int x2), (3, .int x3)]) hx hb dX7_divisor_11 hl (by decide) rfl (fun ls hl => ?_)
        refine lv_iload_n hx hb dX7_divisor_13 rfl (lv_at hl 2 rfl) ?_
        refine lv_istore_n (lv' := [(2, .int x3), (4, .int (x2 - x2 / x3 * x3)), (3, .int x3)]) hx hb dX7_divisor_14 rfl hl (by decide) rfl (fun ls hl => ?_)
        refine lv_iload hx hb dX7_divisor_15 (lv_at hl 1 rfl) ?_
        refine lv_istore_n (lv' := [(3, .int (x2 - x2 / x3 * x3)), (2, .int x3), (4, .int (x2 - x2 / x3 * x3))]) hx hb dX7_divisor_17 rfl hl (by decide) rfl (fun ls hl => ?_)
        refine lv_goto (tgt := 4) hx hb dX7_divisor_18 (by decide) ?_
        exact hJ4 x3 (x2 - x2 / x3 * x3) hw ls _ _ (lv_sub hl [1, 0] rfl) hP hD hS
  have hJ4 : ∀ (x2 : Int32) (x3 : Int32), Wp_X7_divisor_4 a0 a1 Z x2 x3 → ∀ (ls : Array Slot) (H : Heap) (locs : List Loc), lv_has ls 5 [(2, .int x2), (3, .int x3)] → va_P (dC, dI) vwCl ([] : va_W) H → va_D A ([] : va_W) → va_S A s.heap H locs → W p l e ({ frames := 0, cells := 0, slots := 0, locals := 0 }) s m args below meth c H locs 0 0 Q (F0 m 4 ls []) := fun x2 x3 hv => hv (fun x2 x3 => ∀ (ls : Array Slot) (H : Heap) (locs : List Loc), lv_has ls 5 [(2, .int x2), (3, .int x3)] → va_P (dC, dI) vwCl ([] : va_W) H → va_D A ([] : va_W) → va_S A s.heap H locs → W p l e ({ frames := 0, cells := 0, slots := 0, locals := 0 }) s m args below meth c H locs 0 0 Q (F0 m 4 ls [])) (fun J4 q4 => (key J4 q4))
  unfold Wp_X7_divisor at hw
  refine lv_iload_n hx hb dX7_divisor_0 rfl (lv_at hl 0 rfl) ?_
  refine lv_istore_n (lv' := [(2, .int a0), (0, .int a0), (1, .int a1)]) hx hb dX7_divisor_1 rfl hl (by decide) rfl (fun ls hl => ?_)
  refine lv_iload_n hx hb dX7_divisor_2 rfl (lv_at hl 2 rfl) ?_
  refine lv_istore_n (lv' := [(3, .int a1), (2, .int a0), (0, .int a0), (1, .int a1)]) hx hb dX7_divisor_3 rfl hl (by decide) rfl (fun ls hl => ?_)
  exact hJ4 a0 a1 hw ls _ _ (lv_sub hl [1, 0] rfl) hP hD hS
-- CakeMarksModel.part(IIZ)I
def Wp_X7_part (a0 : Int32) (a1 : Int32) (a2 : Int32) (Z : Int32 → Prop) : Prop := ((¬ a0 = (0 : Int32) → (Wp_X7_divisor a0 a1 (fun r_2 => ((a2 = (0 : Int32) → (¬ r_2 = (0 : Int32) ∧ (Z (a1 / r_2)))) ∧ (¬ a2 = (0 : Int32) → (¬ r_2 = (0 : Int32) ∧ (Z (a0 / r_2)))))))) ∧ (a0 = (0 : Int32) → ((a2 = (0 : Int32) → (Z (1 : Int32))) ∧ (¬ a2 = (0 : Int32) → (Z (0 : Int32))))))
set_option maxHeartbeats 20000000 in
set_option maxRecDepth 100000 in
theorem c_X7_part (l : Launch) (dC : Nat → ClassId) (dI : Nat → Nat → Nat) (kI kA kC : ClassId) (sz : Nat) (a0 : Int32) (a1 : Int32) (a2 : Int32) (Z : Int32 → Prop) (hw : Wp_X7_part a0 a1 a2 Z) : zI l yX7_part wsX7_part ({ frames := 1, cells := 0, slots := 0, locals := 24 }) dC dI kI kA kC sz 0 0 [.int a0, .int a1, .int a2] ([] : va_W) (fun (r : Int32) (u : Unit) => Z r ) (fun (u : Unit) => ([] : va_W)) := by
  refine zI.of (cc := cX7_part) (maxL := 4) (ty := .int) (by decide) rfl (Nat.le_of_ble_eq_true rfl) (Or.inl rfl) ?_
  intro p e s m args below meth c A Q C0 hret ls hl
  obtain ⟨hx, hb, hr, hml, hts, hown, hin, hP, hK, hD, hA, hS⟩ := C0
  have hown : s.vm.findClass RX7 = some m.cls := hown
  have hl : lv_has ls 4 [(0, .int a0), (1, .int a1), (2, .int a2)] := hl
  unfold Wp_X7_part at hw
  refine lv_iload_n hx hb dX7_part_0 rfl (lv_at hl 0 rfl) ?_
  refine lv_if_ne (tgt := 14) hx hb dX7_part_1 (by decide) (fun c_1 => ?_) (fun c_1 => ?_)
  · have hw := hw.1 c_1
    refine lv_iload_n hx hb dX7_part_14 rfl (lv_at hl 0 rfl) ?_
    refine lv_iload_n hx hb dX7_part_15 rfl (lv_at hl 1 rfl) ?_
    refine zcallS (As := [.int a0, .int a1]) (rest := []) (wr := ([] : va_W)) (Wn := fun u => ([] : va_W)) ⟨hx, hb, hml, hown, hts⟩ (c_X7_divisor l dC dI kI kA kC _ a0 a1 _ hw) (va_cwS 2 hts gX7_part_X7_divisor rfl rfl rfl (by decide +kernel) ⟨Nat.le_of_ble_eq_true rfl, Nat.le_of_ble_eq_true rfl⟩) hK hP hD hS hA [] [] [] rfl rfl (by decide) (by decide) (by decide) (fun u => rfl) (by decide) rfl hl.1 rfl (Nat.le_of_ble_eq_true rfl) dX7_part_16 ⟨Nat.zero_le _, Nat.zero_le _⟩ (fun r_2 u H locs hw hP hD hS => ?_)
    have hP : va_P (dC, dI) vwCl ([] : va_W) H := hP
    have hD : va_D A ([] : va_W) := hD
    refine lv_istore_n (lv' := [(3, .int r_2), (0, .int a0), (1, .int a1), (2, .int a2)]) hx hb dX7_part_19 rfl hl (by decide) rfl (fun ls hl => ?_)
    refine lv_iload_n hx hb dX7_part_20 rfl (lv_at hl 3 rfl) ?_
    refine lv_if_eq (tgt := 30) hx hb dX7_part_21 (by decide) (fun c_3 => ?_) (fun c_3 => ?_)
    · have hw := hw.1 c_3
      refine lv_iload_n hx hb dX7_part_30 rfl (lv_at hl 2 rfl) ?_
      refine lv_iload_n hx hb dX7_part_31 rfl (lv_at hl 0 rfl) ?_
      obtain ⟨h_4, hw⟩ := hw
      refine lv_idiv hx hb dX7_part_32 h_4 ?_
      exact hret 33 (a1 / r_2) () _ _ _ (fun h => absurd h (by decide)) hw hP hD hS dX7_part_33
    · have hw := hw.2 c_3
      refine lv_iload_n hx hb dX7_part_24 rfl (lv_at hl 1 rfl) ?_
      refine lv_iload_n hx hb dX7_part_25 rfl (lv_at hl 0 rfl) ?_
      obtain ⟨h_5, hw⟩ := hw
      refine lv_idiv hx hb dX7_part_26 h_5 ?_
      refine lv_goto (tgt := 33) hx hb dX7_part_27 (by decide) ?_
      exact hret 33 (a0 / r_2) () _ _ _ (fun h => absurd h (by decide)) hw hP hD hS dX7_part_33
  · have hw := hw.2 c_1
    refine lv_iload_n hx hb dX7_part_4 rfl (lv_at hl 2 rfl) ?_
    refine lv_if_eq (tgt := 12) hx hb dX7_part_5 (by decide) (fun c_6 => ?_) (fun c_6 => ?_)
    · have hw := hw.1 c_6
      refine lv_iconst (v := (1 : Int32)) hx hb dX7_part_12 (by decide) ?_
      exact hret 13 (1 : Int32) () _ _ _ (fun h => absurd h (by decide)) hw hP hD hS dX7_part_13
    · have hw := hw.2 c_6
      refine lv_iconst (v := (0 : Int32)) hx hb dX7_part_8 (by decide) ?_
      refine lv_goto (tgt := 13) hx hb dX7_part_9 (by decide) ?_
      exact hret 13 (0 : Int32) () _ _ _ (fun h => absurd h (by decide)) hw hP hD hS dX7_part_13
-- CakeMarksModel.crumbsOf(IZ)I
def K_X7_crumbsOf_37 (uR : Nat → Int32) (a1 : Int32) (a2 : Int32) (Z : Int32 → Prop) (J5 : Int32 → Int32 → Prop) (x3 : Int32) (x4 : Int32) (t0 : Int32) : Prop := (vp_in ((1 : Int32) + x4) 847 ∧ ((¬ (uR ((1 : Int32) + x4).toNatClampNeg) = a1 → (J5 (x3 + (0 : Int32)) (x4 + (1 : Int32)))) ∧ ((uR ((1 : Int32) + x4).toNatClampNeg) = a1 → ((a2 = (0 : Int32) → (J5 (x3 + (1 : Int32)) (x4 + (1 : Int32)))) ∧ (¬ a2 = (0 : Int32) → ((t0 = (0 : Int32) → (J5 (x3 + (0 : Int32)) (x4 + (1 : Int32)))) ∧ (¬ t0 = (0 : Int32) → (J5 (x3 + (1 : Int32)) (x4 + (1 : Int32))))))))))
def B_X7_crumbsOf_5 (uR : Nat → Int32) (a1 : Int32) (a2 : Int32) (Z : Int32 → Prop) (J5 : Int32 → Int32 → Prop) (x3 : Int32) (x4 : Int32) : Prop := (((24 : Int32) ≤ x4 → (Z x3)) ∧ (¬ (24 : Int32) ≤ x4 → ((x4 = (0 : Int32) → (K_X7_crumbsOf_37 uR a1 a2 Z J5 x3 x4 (1 : Int32))) ∧ (¬ x4 = (0 : Int32) → (vp_in (((1 : Int32) + x4) - (1 : Int32)) 847 ∧ (((uR (((1 : Int32) + x4) - (1 : Int32)).toNatClampNeg) = a1 → (K_X7_crumbsOf_37 uR a1 a2 Z J5 x3 x4 (0 : Int32))) ∧ (¬ (uR (((1 : Int32) + x4) - (1 : Int32)).toNatClampNeg) = a1 → (K_X7_crumbsOf_37 uR a1 a2 Z J5 x3 x4 (1 : Int32)))))))))
def Wp_X7_crumbsOf_5 (uR : Nat → Int32) (a1 : Int32) (a2 : Int32) (Z : Int32 → Prop) (x3 : Int32) (x4 : Int32) : Prop := ∀ (I5 : Int32 → Int32 → Prop), (∀ (J5 : Int32 → Int32 → Prop), (∀ (x3 : Int32) (x4 : Int32), J5 x3 x4 → I5 x3 x4) → ∀ (x3 : Int32) (x4 : Int32), B_X7_crumbsOf_5 uR a1 a2 Z J5 x3 x4 → I5 x3 x4) → I5 x3 x4
theorem F_X7_crumbsOf_5 (uR : Nat → Int32) (a1 : Int32) (a2 : Int32) (Z : Int32 → Prop) (x3 : Int32) (x4 : Int32) (h : B_X7_crumbsOf_5 uR a1 a2 Z (Wp_X7_crumbsOf_5 uR a1 a2 Z) x3 x4) : Wp_X7_crumbsOf_5 uR a1 a2 Z x3 x4 := fun I5 h5 => h5 _ (fun x3 x4 hx => hx I5 h5) x3 x4 h
def Wp_X7_crumbsOf (uR : Nat → Int32) (a1 : Int32) (a2 : Int32) (Z : Int32 → Prop) : Prop := ((Wp_X7_crumbsOf_5 uR a1 a2 Z) (0 : Int32) (0 : Int32))
theorem in_X7_crumbsOf_X7 : ∀ w ∈ u_ws RX7 TX7 16, w ∈ wsX7_crumbsOf := fun w h => List.mem_cons_of_mem _ (List.mem_append_right _ h)
set_option maxHeartbeats 20000000 in
set_option maxRecDepth 100000 in
theorem c_X7_crumbsOf (l : Launch) (dC : Nat → ClassId) (dI : Nat → Nat → Nat) (kI kA kC : ClassId) (uo : Nat) (ur : Nat) (ux : Nat) (ut : Nat) (un : Nat) (uf : Nat) (uw : Nat) (ub : Nat) (sz : Nat) (uR : Nat → Int32) (uk : Int32) (uX : Nat → Int32) (ul : Int32) (uT : Nat → Int32) (ui : Int32) (uN : Nat → Int32) (uF : Nat → Int32) (uW : Nat → Int32) (uB : Nat → Int32) (ubw : Int32) (ubu : Int32) (ubd : Int32) (ucm : Int32) (ucw : Int32) (ucf : Int32) (a1 : Int32) (a2 : Int32) (Z : Int32 → Prop) (hw : Wp_X7_crumbsOf uR a1 a2 Z) : zI l yX7_crumbsOf wsX7_crumbsOf ({ frames := 0, cells := 0, slots := 0, locals := 0 }) dC dI kI kA kC sz 0 0 [.ref uo, .int a1, .int a2] (kModel kI uo ur ux ut un uf uw ub uR uk uX ul uT ui uN uF uW uB ubw ubu ubd ucm ucw ucf) (fun (r : Int32) (u : Unit) => Z r ) (fun (u : Unit) => (kModel kI uo ur ux ut un uf uw ub uR uk uX ul uT ui uN uF uW uB ubw ubu ubd ucm ucw ucf)) := by
  refine zI.of (cc := cX7_crumbsOf) (maxL := 6) (ty := .int) (by decide) rfl (Nat.le_of_ble_eq_true rfl) (Or.inl rfl) ?_
  intro p e s m args below meth c A Q C0 hret ls hl
  obtain ⟨hx, hb, hr, hml, hts, hown, hin, hP, hK, hD, hA, hS⟩ := C0
  have hown : s.vm.findClass RX7 = some m.cls := hown
  have hl : lv_has ls 6 [(0, .ref uo), (1, .int a1), (2, .int a2)] := hl
  have k_37 : ∀ (J5 : Int32 → Int32 → Prop) (hJ5 : ∀ (x3 : Int32) (x4 : Int32), J5 x3 x4 → ∀ (ls : Array Slot) (H : Heap) (locs : List Loc), lv_has ls 6 [(0, .ref uo), (1, .int a1), (2, .int a2), (3, .int x3), (4, .int x4)] → va_P (dC, dI) vwCl (kModel kI uo ur ux ut un uf uw ub uR uk uX ul uT ui uN uF uW uB ubw ubu ubd ucm ucw ucf) H → va_D A (kModel kI uo ur ux ut un uf uw ub uR uk uX ul uT ui uN uF uW uB ubw ubu ubd ucm ucw ucf) → va_S A s.heap H locs → W p l e ({ frames := 0, cells := 0, slots := 0, locals := 0 }) s m args below meth c H locs 0 0 Q (F0 m 5 ls [])), ∀ (x3 : Int32) (x4 : Int32) (t0 : Int32), K_X7_crumbsOf_37 uR a1 a2 Z J5 x3 x4 t0 → ∀ (ls : Array Slot) (H : Heap) (locs : List Loc), lv_has ls 6 [(0, .ref uo), (1, .int a1), (2, .int a2), (3, .int x3), (4, .int x4)] → va_P (dC, dI) vwCl (kModel kI uo ur ux ut un uf uw ub uR uk uX ul uT ui uN uF uW uB ubw ubu ubd ucm ucw ucf) H → va_D A (kModel kI uo ur ux ut un uf uw ub uR uk uX ul uT ui uN uF uW uB ubw ubu ubd ucm ucw ucf) → va_S A s.heap H locs → W p l e ({ frames := 0, cells := 0, slots := 0, locals := 0 }) s m args below meth c H locs 0 0 Q (F0 m 37 ls [.int t0]) := by
    intro J5 hJ5 x3 x4 t0 hw ls H locs hl hP hD hS
    unfold K_X7_crumbsOf_37 at hw
    refine lv_istore (lv' := [(5, .int t0), (0, .ref uo), (1, .int a1), (2, .int a2), (3, .int x3), (4, .int x4)]) hx hb dX7_crumbsOf_37 hl (by decide) rfl (fun ls hl => ?_)
    refine lv_iload_n hx hb dX7_crumbsOf_39 rfl (lv_at hl 4 rfl) ?_
    refine lv_aload_n hx hb dX7_crumbsOf_40 rfl (lv_at hl 1 rfl) ?_
    refine va_get (D := (dC, dI)) (ci := 7) (v := .ref ur) (C := RX7) (T := TX7) (N := 16) hx hb hts in_X7_crumbsOf_X7 hown hK hP 0 rfl rfl 0 (by decide) (hts (.fieldLink RX7 7 "CakeMarksModel" "row" "[I") (List.mem_of_getElem? (i := 1) rfl)) (fun _ h9 => h9) rfl dX7_crumbsOf_41 ?_
    refine lv_iconst (v := (1 : Int32)) hx hb dX7_crumbsOf_44 (by decide) ?_
    refine lv_iload hx hb dX7_crumbsOf_45 (lv_at hl 5 rfl) ?_
    refine lv_iadd hx hb dX7_crumbsOf_47 ?_
    obtain ⟨h_5, hw⟩ := hw
    refine va_iald hx hb hK hP 1 0 rfl rfl h_5 dX7_crumbsOf_48 ?_
    refine lv_iload_n hx hb dX7_crumbsOf_49 rfl (lv_at hl 2 rfl) ?_
    refine lv_icmp_ne (tgt := 66) hx hb dX7_crumbsOf_50 (by decide) (fun c_6 => ?_) (fun c_6 => ?_)
    · have hw := hw.1 c_6
      refine lv_iconst (v := (0 : Int32)) hx hb dX7_crumbsOf_66 (by decide) ?_
      refine lv_iadd hx hb dX7_crumbsOf_67 ?_
      refine lv_istore_n (lv' := [(3, .int (x3 + (0 : Int32))), (5, .int t0), (0, .ref uo), (1, .int a1), (2, .int a2), (4, .int x4)]) hx hb dX7_crumbsOf_68 rfl hl (by decide) rfl (fun ls hl => ?_)
      refine lv_iinc (v := (x4 + (1 : Int32))) (lv' := [(4, .int (x4 + (1 : Int32))), (3, .int (x3 + (0 : Int32))), (5, .int t0), (0, .ref uo), (1, .int a1), (2, .int a2)]) hx hb dX7_crumbsOf_69 hl (k := 5) rfl (by first | rfl | decide) (by decide) rfl (fun ls hl => ?_)
      refine lv_goto (tgt := 5) hx hb dX7_crumbsOf_72 (by decide) ?_
      exact hJ5 (x3 + (0 : Int32)) (x4 + (1 : Int32)) hw ls _ _ (lv_sub hl [3, 4, 5, 1, 0] rfl) hP hD hS
    · have hw := hw.2 c_6
      refine lv_iload_n hx hb dX7_crumbsOf_53 rfl (lv_at hl 3 rfl) ?_
      refine lv_if_eq (tgt := 62) hx hb dX7_crumbsOf_54 (by decide) (fun c_7 => ?_) (fun c_7 => ?_)
      · have hw := hw.1 c_7
        refine lv_iconst (v := (1 : Int32)) hx hb dX7_crumbsOf_62 (by decide) ?_
        refine lv_goto (tgt := 67) hx hb dX7_crumbsOf_63 (by decide) ?_
        refine lv_iadd hx hb dX7_crumbsOf_67 ?_
        refine lv_istore_n (lv' := [(3, .int (x3 + (1 : Int32))), (5, .int t0), (0, .ref uo), (1, .int a1), (2, .int a2), (4, .int x4)]) hx hb dX7_crumbsOf_68 rfl hl (by decide) rfl (fun ls hl => ?_)
        refine lv_iinc (v := (x4 + (1 : Int32))) (lv' := [(4, .int (x4 + (1 : Int32))), (3, .int (x3 + (1 : Int32))), (5, .int t0), (0, .ref uo), (1, .int a1), (2, .int a2)]) hx hb dX7_crumbsOf_69 hl (k := 5) rfl (by first | rfl | decide) (by decide) rfl (fun ls hl => ?_)
        refine lv_goto (tgt := 5) hx hb dX7_crumbsOf_72 (by decide) ?_
        exact hJ5 (x3 + (1 : Int32)) (x4 + (1 : Int32)) hw ls _ _ (lv_sub hl [3, 4, 5, 1, 0] rfl) hP hD hS
      · have hw := hw.2 c_7
        refine lv_iload hx hb dX7_crumbsOf_57 (lv_at hl 0 rfl) ?_
        refine lv_if_eq (tgt := 66) hx hb dX7_crumbsOf_59 (by decide) (fun c_8 => ?_) (fun c_8 => ?_)
        · have hw := hw.1 c_8
          refine lv_iconst (v := (0 : Int32)) hx hb dX7_crumbsOf_66 (by decide) ?_
          refine lv_iadd hx hb dX7_crumbsOf_67 ?_
          refine lv_istore_n (lv' := [(3, .int (x3 + (0 : Int32))), (5, .int t0), (0, .ref uo), (1, .int a1), (2, .int a2), (4, .int x4)]) hx hb dX7_crumbsOf_68 rfl hl (by decide) rfl (fun ls hl => ?_)
          refine lv_iinc (v := (x4 + (1 : Int32))) (lv' := [(4, .int (x4 + (1 : Int32))), (3, .int (x3 + (0 : Int32))), (5, .int t0), (0, .ref uo), (1, .int a1), (2, .int a2)]) hx hb dX7_crumbsOf_69 hl (k := 5) rfl (by first | rfl | decide) (by decide) rfl (fun ls hl => ?_)
          refine lv_goto (tgt := 5) hx hb dX7_crumbsOf_72 (by decide) ?_
          exact hJ5 (x3 + (0 : Int32)) (x4 + (1 : Int32)) hw ls _ _ (lv_sub hl [3, 4, 5, 1, 0] rfl) hP hD hS
        · have hw := hw.2 c_8
          refine lv_iconst (v := (1 : Int32)) hx hb dX7_crumbsOf_62 (by decide) ?_
          refine lv_goto (tgt := 67) hx hb dX7_crumbsOf_63 (by decide) ?_
          refine lv_iadd hx hb dX7_crumbsOf_67 ?_
          refine lv_istore_n (lv' := [(3, .int (x3 + (1 : Int32))), (5, .int t0), (0, .ref uo), (1, .int a1), (2, .int a2), (4, .int x4)]) hx hb dX7_crumbsOf_68 rfl hl (by decide) rfl (fun ls hl => ?_)
          refine lv_iinc (v := (x4 + (1 : Int32))) (lv' := [(4, .int (x4 + (1 : Int32))), (3, .int (x3 + (1 : Int32))), (5, .int t0), (0, .ref uo), (1, .int a1), (2, .int a2)]) hx hb dX7_crumbsOf_69 hl (k := 5) rfl (by first | rfl | decide) (by decide) rfl (fun ls hl => ?_)
          refine lv_goto (tgt := 5) hx hb dX7_crumbsOf_72 (by decide) ?_
          exact hJ5 (x3 + (1 : Int32)) (x4 + (1 : Int32)) hw ls _ _ (lv_sub hl [3, 4, 5, 1, 0] rfl) hP hD hS
  have key : ∀ (J5 : Int32 → Int32 → Prop) (hJ5 : ∀ (x3 : Int32) (x4 : Int32), J5 x3 x4 → ∀ (ls : Array Slot) (H : Heap) (locs : List Loc), lv_has ls 6 [(0, .ref uo), (1, .int a1), (2, .int a2), (3, .int x3), (4, .int x4)] → va_P (dC, dI) vwCl (kModel kI uo ur ux ut un uf uw ub uR uk uX ul uT ui uN uF uW uB ubw ubu ubd ucm ucw ucf) H → va_D A (kModel kI uo ur ux ut un uf uw ub uR uk uX ul uT ui uN uF uW uB ubw ubu ubd ucm ucw ucf) → va_S A s.heap H locs → W p l e ({ frames := 0, cells := 0, slots := 0, locals := 0 }) s m args below meth c H locs 0 0 Q (F0 m 5 ls [])), (∀ (x3 : Int32) (x4 : Int32), B_X7_crumbsOf_5 uR a1 a2 Z J5 x3 x4 → ∀ (ls : Array Slot) (H : Heap) (locs : List Loc), lv_has ls 6 [(0, .ref uo), (1, .int a1), (2, .int a2), (3, .int x3), (4, .int x4)] → va_P (dC, dI) vwCl (kModel kI uo ur ux ut un uf uw ub uR uk uX ul uT ui uN uF uW uB ubw ubu ubd ucm ucw ucf) H → va_D A (kModel kI uo ur ux ut un uf uw ub uR uk uX ul uT ui uN uF uW uB ubw ubu ubd ucm ucw ucf) → va_S A s.heap H locs → W p l e ({ frames := 0, cells := 0, slots := 0, locals := 0 }) s m args below meth c H locs 0 0 Q (F0 m 5 ls [])) := by
    intro J5 hJ5
    · intro x3 x4 hw ls H locs hl hP hD hS
      unfold B_X7_crumbsOf_5 at hw
      refine lv_iload hx hb dX7_crumbsOf_5 (lv_at hl 4 rfl) ?_
      refine lv_bipush (v := (24 : Int32)) hx hb dX7_crumbsOf_7 (by decide) ?_
      refine lv_icmp_ge (tgt := 75) hx hb dX7_crumbsOf_9 (by decide) (fun c_1 => ?_) (fun c_1 => ?_)
      · have hw := hw.1 c_1
        refine lv_iload_n hx hb dX7_crumbsOf_75 rfl (lv_at hl 3 rfl) ?_
        exact hret 76 x3 () _ _ _ (fun h => absurd h (by decide)) hw hP hD hS dX7_crumbsOf_76
      · have hw := hw.2 c_1
        refine lv_iload hx hb dX7_crumbsOf_12 (lv_at hl 4 rfl) ?_
        refine lv_if_eq (tgt := 32) hx hb dX7_crumbsOf_14 (by decide) (fun c_2 => ?_) (fun c_2 => ?_)
        · have hw := hw.1 c_2
          refine lv_iconst (v := (1 : Int32)) hx hb dX7_crumbsOf_32 (by decide) ?_
          refine lv_goto (tgt := 37) hx hb dX7_crumbsOf_33 (by decide) ?_
          exact k_37 _ hJ5 x3 x4 (1 : Int32) hw ls _ _ (lv_sub hl [0, 1, 2, 3, 4] rfl) hP hD hS
        · have hw := hw.2 c_2
          refine lv_aload_n hx hb dX7_crumbsOf_17 rfl (lv_at hl 0 rfl) ?_
          refine va_get (D := (dC, dI)) (ci := 7) (v := .ref ur) (C := RX7) (T := TX7) (N := 16) hx hb hts in_X7_crumbsOf_X7 hown hK hP 0 rfl rfl 0 (by decide) (hts (.fieldLink RX7 7 "CakeMarksModel" "row" "[I") (List.mem_of_getElem? (i := 1) rfl)) (fun _ h9 => h9) rfl dX7_crumbsOf_18 ?_
          refine lv_iconst (v := (1 : Int32)) hx hb dX7_crumbsOf_21 (by decide) ?_
          refine lv_iload hx hb dX7_crumbsOf_22 (lv_at hl 4 rfl) ?_
          refine lv_iadd hx hb dX7_crumbsOf_24 ?_
          refine lv_iconst (v := (1 : Int32)) hx hb dX7_crumbsOf_25 (by decide) ?_
          refine lv_isub hx hb dX7_crumbsOf_26 ?_
          obtain ⟨h_3, hw⟩ := hw
          refine va_iald hx hb hK hP 1 0 rfl rfl h_3 dX7_crumbsOf_27 ?_
          refine lv_iload_n hx hb dX7_crumbsOf_28 rfl (lv_at hl 1 rfl) ?_
          refine lv_icmp_eq (tgt := 36) hx hb dX7_crumbsOf_29 (by decide) (fun c_4 => ?_) (fun c_4 => ?_)
          · have hw := hw.1 c_4
            refine lv_iconst (v := (0 : Int32)) hx hb dX7_crumbsOf_36 (by decide) ?_
            exact k_37 _ hJ5 x3 x4 (0 : Int32) hw ls _ _ (lv_sub hl [0, 1, 2, 3, 4] rfl) hP hD hS
          · have hw := hw.2 c_4
            refine lv_iconst (v := (1 : Int32)) hx hb dX7_crumbsOf_32 (by decide) ?_
            refine lv_goto (tgt := 37) hx hb dX7_crumbsOf_33 (by decide) ?_
            exact k_37 _ hJ5 x3 x4 (1 : Int32) hw ls _ _ (lv_sub hl [0, 1, 2, 3, 4] rfl) hP hD hS
  have hJ5 : ∀ (x3 : Int32) (x4 : Int32), Wp_X7_crumbsOf_5 uR a1 a2 Z x3 x4 → ∀ (ls : Array Slot) (H : Heap) (locs : List Loc), lv_has ls 6 [(0, .ref uo), (1, .int a1), (2, .int a2), (3, .int x3), (4, .int x4)] → va_P (dC, dI) vwCl (kModel kI uo ur ux ut un uf uw ub uR uk uX ul uT ui uN uF uW uB ubw ubu ubd ucm ucw ucf) H → va_D A (kModel kI uo ur ux ut un uf uw ub uR uk uX ul uT ui uN uF uW uB ubw ubu ubd ucm ucw ucf) → va_S A s.heap H locs → W p l e ({ frames := 0, cells := 0, slots := 0, locals := 0 }) s m args below meth c H locs 0 0 Q (F0 m 5 ls []) := fun x3 x4 hv => hv (fun x3 x4 => ∀ (ls : Array Slot) (H : Heap) (locs : List Loc), lv_has ls 6 [(0, .ref uo), (1, .int a1), (2, .int a2), (3, .int x3), (4, .int x4)] → va_P (dC, dI) vwCl (kModel kI uo ur ux ut un uf uw ub uR uk uX ul uT ui uN uF uW uB ubw ubu ubd ucm ucw ucf) H → va_D A (kModel kI uo ur ux ut un uf uw ub uR uk uX ul uT ui uN uF uW uB ubw ubu ubd ucm ucw ucf) → va_S A s.heap H locs → W p l e ({ frames := 0, cells := 0, slots := 0, locals := 0 }) s m args below meth c H locs 0 0 Q (F0 m 5 ls [])) (fun J5 q5 => (key J5 q5))
  unfold Wp_X7_crumbsOf at hw
  refine lv_iconst (v := (0 : Int32)) hx hb dX7_crumbsOf_0 (by decide) ?_
  refine lv_istore_n (lv' := [(3, .int (0 : Int32)), (0, .ref uo), (1, .int a1), (2, .int a2)]) hx hb dX7_crumbsOf_1 rfl hl (by decide) rfl (fun ls hl => ?_)
  refine lv_iconst (v := (0 : Int32)) hx hb dX7_crumbsOf_2 (by decide) ?_
  refine lv_istore (lv' := [(4, .int (0 : Int32)), (3, .int (0 : Int32)), (0, .ref uo), (1, .int a1), (2, .int a2)]) hx hb dX7_crumbsOf_3 hl (by decide) rfl (fun ls hl => ?_)
  exact hJ5 (0 : Int32) (0 : Int32) hw ls _ _ (lv_sub hl [2, 3, 4, 1, 0] rfl) hP hD hS
-- CakeMarksModel.guest(II)I
def Wp_X7_guest (uR : Nat → Int32) (a1 : Int32) (a2 : Int32) (Z : Int32 → Prop) : Prop := (Wp_X7_isGuest uR a1 (fun r_1 => ((¬ r_1 = (0 : Int32) → ((a2 = (0 : Int32) → (Wp_X7_total uR a1 (fun r_3 => (Z r_3)))) ∧ (a2 = (1 : Int32) → (Wp_X7_pieceValue uR a1 a1 (fun r_4 => (Z r_4)))) ∧ (a2 = (2 : Int32) → (Wp_X7_crumbsOf uR a1 (0 : Int32) (fun r_5 => (Z r_5)))) ∧ (a2 = (3 : Int32) → (Wp_X7_pieceValue uR a1 a1 (fun r_6 => (Wp_X7_total uR a1 (fun r_7 => (Wp_X7_part r_6 r_7 (1 : Int32) (fun r_8 => (Z r_8)))))))) ∧ (a2 = (4 : Int32) → (Wp_X7_pieceValue uR a1 a1 (fun r_9 => (Wp_X7_total uR a1 (fun r_10 => (Wp_X7_part r_9 r_10 (0 : Int32) (fun r_11 => (Z r_11)))))))) ∧ (a2 = (5 : Int32) → (Wp_X7_crumbsOf uR a1 (1 : Int32) (fun r_12 => (Z r_12)))) ∧ (a2 = (6 : Int32) → (Wp_X7_pieceValue uR a1 (-9 : Int32) (fun r_13 => (Z r_13)))) ∧ ((a2.toInt < 0 ∨ 6 < a2.toInt) → (Z (-1 : Int32))))) ∧ (r_1 = (0 : Int32) → (Z (-1 : Int32))))))
set_option maxHeartbeats 20000000 in
set_option maxRecDepth 100000 in
theorem c_X7_guest (l : Launch) (dC : Nat → ClassId) (dI : Nat → Nat → Nat) (kI kA kC : ClassId) (uo : Nat) (ur : Nat) (ux : Nat) (ut : Nat) (un : Nat) (uf : Nat) (uw : Nat) (ub : Nat) (sz : Nat) (uR : Nat → Int32) (uk : Int32) (uX : Nat → Int32) (ul : Int32) (uT : Nat → Int32) (ui : Int32) (uN : Nat → Int32) (uF : Nat → Int32) (uW : Nat → Int32) (uB : Nat → Int32) (ubw : Int32) (ubu : Int32) (ubd : Int32) (ucm : Int32) (ucw : Int32) (ucf : Int32) (a1 : Int32) (a2 : Int32) (Z : Int32 → Prop) (hw : Wp_X7_guest uR a1 a2 Z) : zI l yX7_guest wsX7_guest ({ frames := 3, cells := 0, slots := 0, locals := 68 }) dC dI kI kA kC sz 0 0 [.ref uo, .int a1, .int a2] (kModel kI uo ur ux ut un uf uw ub uR uk uX ul uT ui uN uF uW uB ubw ubu ubd ucm ucw ucf) (fun (r : Int32) (u : Unit) => Z r ) (fun (u : Unit) => (kModel kI uo ur ux ut un uf uw ub uR uk uX ul uT ui uN uF uW uB ubw ubu ubd ucm ucw ucf)) := by
  refine zI.of (cc := cX7_guest) (maxL := 3) (ty := .int) (by decide) rfl (Nat.le_of_ble_eq_true rfl) (Or.inl rfl) ?_
  intro p e s m args below meth c A Q C0 hret ls hl
  obtain ⟨hx, hb, hr, hml, hts, hown, hin, hP, hK, hD, hA, hS⟩ := C0
  have hown : s.vm.findClass RX7 = some m.cls := hown
  have hl : lv_has ls 3 [(0, .ref uo), (1, .int a1), (2, .int a2)] := hl
  unfold Wp_X7_guest at hw
  refine lv_aload_n hx hb dX7_guest_0 rfl (lv_at hl 0 rfl) ?_
  refine lv_iload_n hx hb dX7_guest_1 rfl (lv_at hl 1 rfl) ?_
  refine zcallI (ci := 7) (q0 := 0) (As := [.int a1]) (rest := []) (wr := ([] : va_W)) (Wn := fun u => (kModel kI uo ur ux ut un uf uw ub uR uk uX ul uT ui uN uF uW uB ubw ubu ubd ucm ucw ucf)) ⟨hx, hb, hml, hown, hts⟩ (c_X7_isGuest l dC dI kI kA kC uo ur ux ut un uf uw ub _ uR uk uX ul uT ui uN uF uW uB ubw ubu ubd ucm ucw ucf a1 _ hw) (cwV 1 hts gX7_guest_X7_isGuest rfl rfl rfl (by decide +kernel) ⟨Nat.le_of_ble_eq_true rfl, Nat.le_of_ble_eq_true rfl⟩) hK hP hD hS hA [0, 1, 2, 3, 4, 5, 6, 7] [] [0, 1, 2, 3, 4, 5, 6, 7] rfl rfl (by decide) (by decide) (by decide) (fun u => rfl) (by decide) rfl rfl rfl rfl hl.1 rfl (Nat.le_of_ble_eq_true rfl) dX7_guest_2 ⟨Nat.zero_le _, Nat.zero_le _⟩ (fun r_1 u H locs hw hP hD hS => ?_)
  have hP : va_P (dC, dI) vwCl (kModel kI uo ur ux ut un uf uw ub uR uk uX ul uT ui uN uF uW uB ubw ubu ubd ucm ucw ucf) H := hP
  have hD : va_D A (kModel kI uo ur ux ut un uf uw ub uR uk uX ul uT ui uN uF uW uB ubw ubu ubd ucm ucw ucf) := hD
  refine lv_if_ne (tgt := 10) hx hb dX7_guest_5 (by decide) (fun c_2 => ?_) (fun c_2 => ?_)
  · have hw := hw.1 c_2
    refine lv_iload_n hx hb dX7_guest_10 rfl (lv_at hl 2 rfl) ?_
    rcases z_sw 6 a2 with c_14 | ⟨k, hk, c_14⟩
    · have hw := hw.2.2.2.2.2.2.2 c_14
      refine lv_tableOut (tgt := 119) hx hb dX7_guest_11 c_14 (by decide) ?_
      refine lv_iconst (v := (-1 : Int32)) hx hb dX7_guest_119 (by decide) ?_
      exact hret 120 (-1 : Int32) () _ _ _ (fun h => absurd h (by decide)) hw hP hD hS dX7_guest_120
    · rcases (show k = 0 ∨ k = 1 ∨ k = 2 ∨ k = 3 ∨ k = 4 ∨ k = 5 ∨ k = 6 by omega) with rfl | rfl | rfl | rfl | rfl | rfl | rfl
      · have c_14 : a2 = (0 : Int32) := c_14
        have hw := hw.1 c_14
        refine lv_tableIn (off := 41) (tgt := 52) hx hb dX7_guest_11 (by rw [c_14]; decide) (by rw [c_14]; decide) (by rw [c_14]; decide) (by decide) ?_
        refine lv_aload_n hx hb dX7_guest_52 rfl (lv_at hl 0 rfl) ?_
        refine lv_iload_n hx hb dX7_guest_53 rfl (lv_at hl 1 rfl) ?_
        refine zcallI (ci := 7) (q0 := 0) (As := [.int a1]) (rest := []) (wr := ([] : va_W)) (Wn := fun u => (kModel kI uo ur ux ut un uf uw ub uR uk uX ul uT ui uN uF uW uB ubw ubu ubd ucm ucw ucf)) ⟨hx, hb, hml, hown, hts⟩ (c_X7_total l dC dI kI kA kC uo ur ux ut un uf uw ub _ uR uk uX ul uT ui uN uF uW uB ubw ubu ubd ucm ucw ucf a1 _ hw) (cwV 1 hts gX7_guest_X7_total rfl rfl rfl (by decide +kernel) ⟨Nat.le_of_ble_eq_true rfl, Nat.le_of_ble_eq_true rfl⟩) hK hP hD hS hA [0, 1, 2, 3, 4, 5, 6, 7] [] [0, 1, 2, 3, 4, 5, 6, 7] rfl rfl (by decide) (by decide) (by decide) (fun u => rfl) (by decide) rfl rfl rfl rfl hl.1 rfl (Nat.le_of_ble_eq_true rfl) dX7_guest_54 ⟨Nat.zero_le _, Nat.zero_le _⟩ (fun r_3 u H locs hw hP hD hS => ?_)
        have hP : va_P (dC, dI) vwCl (kModel kI uo ur ux ut un uf uw ub uR uk uX ul uT ui uN uF uW uB ubw ubu ubd ucm ucw ucf) H := hP
        have hD : va_D A (kModel kI uo ur ux ut un uf uw ub uR uk uX ul uT ui uN uF uW uB ubw ubu ubd ucm ucw ucf) := hD
        exact hret 57 r_3 () _ _ _ (fun h => absurd h (by decide)) hw hP hD hS dX7_guest_57
      · have c_14 : a2 = (1 : Int32) := c_14
        have hw := hw.2.1 c_14
        refine lv_tableIn (off := 47) (tgt := 58) hx hb dX7_guest_11 (by rw [c_14]; decide) (by rw [c_14]; decide) (by rw [c_14]; decide) (by decide) ?_
        refine lv_aload_n hx hb dX7_guest_58 rfl (lv_at hl 0 rfl) ?_
        refine lv_iload_n hx hb dX7_guest_59 rfl (lv_at hl 1 rfl) ?_
        refine lv_iload_n hx hb dX7_guest_60 rfl (lv_at hl 1 rfl) ?_
        refine zcallI (ci := 7) (q0 := 0) (As := [.int a1, .int a1]) (rest := []) (wr := ([] : va_W)) (Wn := fun u => (kModel kI uo ur ux ut un uf uw ub uR uk uX ul uT ui uN uF uW uB ubw ubu ubd ucm ucw ucf)) ⟨hx, hb, hml, hown, hts⟩ (c_X7_pieceValue l dC dI kI kA kC uo ur ux ut un uf uw ub _ uR uk uX ul uT ui uN uF uW uB ubw ubu ubd ucm ucw ucf a1 a1 _ hw) (cwV 2 hts gX7_guest_X7_pieceValue rfl rfl rfl (by decide +kernel) ⟨Nat.le_of_ble_eq_true rfl, Nat.le_of_ble_eq_true rfl⟩) hK hP hD hS hA [0, 1, 2, 3, 4, 5, 6, 7] [] [0, 1, 2, 3, 4, 5, 6, 7] rfl rfl (by decide) (by decide) (by decide) (fun u => rfl) (by decide) rfl rfl rfl rfl hl.1 rfl (Nat.le_of_ble_eq_true rfl) dX7_guest_61 ⟨Nat.zero_le _, Nat.zero_le _⟩ (fun r_4 u H locs hw hP hD hS => ?_)
        have hP : va_P (dC, dI) vwCl (kModel kI uo ur ux ut un uf uw ub uR uk uX ul uT ui uN uF uW uB ubw ubu ubd ucm ucw ucf) H := hP
        have hD : va_D A (kModel kI uo ur ux ut un uf uw ub uR uk uX ul uT ui uN uF uW uB ubw ubu ubd ucm ucw ucf) := hD
        exact hret 64 r_4 () _ _ _ (fun h => absurd h (by decide)) hw hP hD hS dX7_guest_64
      · have c_14 : a2 = (2 : Int32) := c_14
        have hw := hw.2.2.1 c_14
        refine lv_tableIn (off := 54) (tgt := 65) hx hb dX7_guest_11 (by rw [c_14]; decide) (by rw [c_14]; decide) (by rw [c_14]; decide) (by decide) ?_
        refine lv_aload_n hx hb dX7_guest_65 rfl (lv_at hl 0 rfl) ?_
        refine lv_iload_n hx hb dX7_guest_66 rfl (lv_at hl 1 rfl) ?_
        refine lv_iconst (v := (0 : Int32)) hx hb dX7_guest_67 (by decide) ?_
        refine zcallI (ci := 7) (q0 := 0) (As := [.int a1, .int (0 : Int32)]) (rest := []) (wr := ([] : va_W)) (Wn := fun u => (kModel kI uo ur ux ut un uf uw ub uR uk uX ul uT ui uN uF uW uB ubw ubu ubd ucm ucw ucf)) ⟨hx, hb, hml, hown, hts⟩ (c_X7_crumbsOf l dC dI kI kA kC uo ur ux ut un uf uw ub _ uR uk uX ul uT ui uN uF uW uB ubw ubu ubd ucm ucw ucf a1 (0 : Int32) _ hw) (cwV 2 hts gX7_guest_X7_crumbsOf rfl rfl rfl (by decide +kernel) ⟨Nat.le_of_ble_eq_true rfl, Nat.le_of_ble_eq_true rfl⟩) hK hP hD hS hA [0, 1, 2, 3, 4, 5, 6, 7] [] [0, 1, 2, 3, 4, 5, 6, 7] rfl rfl (by decide) (by decide) (by decide) (fun u => rfl) (by decide) rfl rfl rfl rfl hl.1 rfl (Nat.le_of_ble_eq_true rfl) dX7_guest_68 ⟨Nat.zero_le _, Nat.zero_le _⟩ (fun r_5 u H locs hw hP hD hS => ?_)
        have hP : va_P (dC, dI) vwCl (kModel kI uo ur ux ut un uf uw ub uR uk uX ul uT ui uN uF uW uB ubw ubu ubd ucm ucw ucf) H := hP
        have hD : va_D A (kModel kI uo ur ux ut un uf uw ub uR uk uX ul uT ui uN uF uW uB ubw ubu ubd ucm ucw ucf) := hD
        exact hret 71 r_5 () _ _ _ (fun h => absurd h (by decide)) hw hP hD hS dX7_guest_71
      · have c_14 : a2 = (3 : Int32) := c_14
        have hw := hw.2.2.2.1 c_14
        refine lv_tableIn (off := 61) (tgt := 72) hx hb dX7_guest_11 (by rw [c_14]; decide) (by rw [c_14]; decide) (by rw [c_14]; decide) (by decide) ?_
        refine lv_aload_n hx hb dX7_guest_72 rfl (lv_at hl 0 rfl) ?_
        refine lv_iload_n hx hb dX7_guest_73 rfl (lv_at hl 1 rfl) ?_
        refine lv_iload_n hx hb dX7_guest_74 rfl (lv_at hl 1 rfl) ?_
        refine zcallI (ci := 7) (q0 := 0) (As := [.int a1, .int a1]) (rest := []) (wr := ([] : va_W)) (Wn := fun u => (kModel kI uo ur ux ut un uf uw ub uR uk uX ul uT ui uN uF uW uB ubw ubu ubd ucm ucw ucf)) ⟨hx, hb, hml, hown, hts⟩ (c_X7_pieceValue l dC dI kI kA kC uo ur ux ut un uf uw ub _ uR uk uX ul uT ui uN uF uW uB ubw ubu ubd ucm ucw ucf a1 a1 _ hw) (cwV 2 hts gX7_guest_X7_pieceValue rfl rfl rfl (by decide +kernel) ⟨Nat.le_of_ble_eq_true rfl, Nat.le_of_ble_eq_true rfl⟩) hK hP hD hS hA [0, 1, 2, 3, 4, 5, 6, 7] [] [0, 1, 2, 3, 4, 5, 6, 7] rfl rfl (by decide) (by decide) (by decide) (fun u => rfl) (by decide) rfl rfl rfl rfl hl.1 rfl (Nat.le_of_ble_eq_true rfl) dX7_guest_75 ⟨Nat.zero_le _, Nat.zero_le _⟩ (fun r_6 u H locs hw hP hD hS => ?_)
        have hP : va_P (dC, dI) vwCl (kModel kI uo ur ux ut un uf uw ub uR uk uX ul uT ui uN uF uW uB ubw ubu ubd ucm ucw ucf) H := hP
        have hD : va_D A (kModel kI uo ur ux ut un uf uw ub uR uk uX ul uT ui uN uF uW uB ubw ubu ubd ucm ucw ucf) := hD
        refine lv_aload_n hx hb dX7_guest_78 rfl (lv_at hl 0 rfl) ?_
        refine lv_iload_n hx hb dX7_guest_79 rfl (lv_at hl 1 rfl) ?_
        refine zcallI (ci := 7) (q0 := 0) (As := [.int a1]) (rest := [.int r_6]) (wr := ([] : va_W)) (Wn := fun u => (kModel kI uo ur ux ut un uf uw ub uR uk uX ul uT ui uN uF uW uB ubw ubu ubd ucm ucw ucf)) ⟨hx, hb, hml, hown, hts⟩ (c_X7_total l dC dI kI kA kC uo ur ux ut un uf uw ub _ uR uk uX ul uT ui uN uF uW uB ubw ubu ubd ucm ucw ucf a1 _ hw) (cwV 1 hts gX7_guest_X7_total rfl rfl rfl (by decide +kernel) ⟨Nat.le_of_ble_eq_true rfl, Nat.le_of_ble_eq_true rfl⟩) hK hP hD hS hA [0, 1, 2, 3, 4, 5, 6, 7] [] [0, 1, 2, 3, 4, 5, 6, 7] rfl rfl (by decide) (by decide) (by decide) (fun u => rfl) (by decide) rfl rfl rfl rfl hl.1 rfl (Nat.le_of_ble_eq_true rfl) dX7_guest_80 ⟨Nat.zero_le _, Nat.zero_le _⟩ (fun r_7 u H locs hw hP hD hS => ?_)
        have hP : va_P (dC, dI) vwCl (kModel kI uo ur ux ut un uf uw ub uR uk uX ul uT ui uN uF uW uB ubw ubu ubd ucm ucw ucf) H := hP
        have hD : va_D A (kModel kI uo ur ux ut un uf uw ub uR uk uX ul uT ui uN uF uW uB ubw ubu ubd ucm ucw ucf) := hD
        refine lv_iconst (v := (1 : Int32)) hx hb dX7_guest_83 (by decide) ?_
        refine zcallS (As := [.int r_6, .int r_7, .int (1 : Int32)]) (rest := []) (wr := (kModel kI uo ur ux ut un uf uw ub uR uk uX ul uT ui uN uF uW uB ubw ubu ubd ucm ucw ucf)) (Wn := fun u => (kModel kI uo ur ux ut un uf uw ub uR uk uX ul uT ui uN uF uW uB ubw ubu ubd ucm ucw ucf)) ⟨hx, hb, hml, hown, hts⟩ (c_X7_part l dC dI kI kA kC _ r_6 r_7 (1 : Int32) _ hw) (va_cwS 3 hts gX7_guest_X7_part rfl rfl rfl (by decide +kernel) ⟨Nat.le_of_ble_eq_true rfl, Nat.le_of_ble_eq_true rfl⟩) hK hP hD hS hA [] [0, 1, 2, 3, 4, 5, 6, 7] [0, 1, 2, 3, 4, 5, 6, 7] rfl rfl (by decide) (by decide) (by decide) (fun u => rfl) (by decide) rfl hl.1 rfl (Nat.le_of_ble_eq_true rfl) dX7_guest_84 ⟨Nat.zero_le _, Nat.zero_le _⟩ (fun r_8 u H locs hw hP hD hS => ?_)
        have hP : va_P (dC, dI) vwCl (kModel kI uo ur ux ut un uf uw ub uR uk uX ul uT ui uN uF uW uB ubw ubu ubd ucm ucw ucf) H := hP
        have hD : va_D A (kModel kI uo ur ux ut un uf uw ub uR uk uX ul uT ui uN uF uW uB ubw ubu ubd ucm ucw ucf) := hD
        exact hret 87 r_8 () _ _ _ (fun h => absurd h (by decide)) hw hP hD hS dX7_guest_87
      · have c_14 : a2 = (4 : Int32) := c_14
        have hw := hw.2.2.2.2.1 c_14
        refine lv_tableIn (off := 77) (tgt := 88) hx hb dX7_guest_11 (by rw [c_14]; decide) (by rw [c_14]; decide) (by rw [c_14]; decide) (by decide) ?_
        refine lv_aload_n hx hb dX7_guest_88 rfl (lv_at hl 0 rfl) ?_
        refine lv_iload_n hx hb dX7_guest_89 rfl (lv_at hl 1 rfl) ?_
        refine lv_iload_n hx hb dX7_guest_90 rfl (lv_at hl 1 rfl) ?_
        refine zcallI (ci := 7) (q0 := 0) (As := [.int a1, .int a1]) (rest := []) (wr := ([] : va_W)) (Wn := fun u => (kModel kI uo ur ux ut un uf uw ub uR uk uX ul uT ui uN uF uW uB ubw ubu ubd ucm ucw ucf)) ⟨hx, hb, hml, hown, hts⟩ (c_X7_pieceValue l dC dI kI kA kC uo ur ux ut un uf uw ub _ uR uk uX ul uT ui uN uF uW uB ubw ubu ubd ucm ucw ucf a1 a1 _ hw) (cwV 2 hts gX7_guest_X7_pieceValue rfl rfl rfl (by decide +kernel) ⟨Nat.le_of_ble_eq_true rfl, Nat.le_of_ble_eq_true rfl⟩) hK hP hD hS hA [0, 1, 2, 3, 4, 5, 6, 7] [] [0, 1, 2, 3, 4, 5, 6, 7] rfl rfl (by decide) (by decide) (by decide) (fun u => rfl) (by decide) rfl rfl rfl rfl hl.1 rfl (Nat.le_of_ble_eq_true rfl) dX7_guest_91 ⟨Nat.zero_le _, Nat.zero_le _⟩ (fun r_9 u H locs hw hP hD hS => ?_)
        have hP : va_P (dC, dI) vwCl (kModel kI uo ur ux ut un uf uw ub uR uk uX ul uT ui uN uF uW uB ubw ubu ubd ucm ucw ucf) H := hP
        have hD : va_D A (kModel kI uo ur ux ut un uf uw ub uR uk uX ul uT ui uN uF uW uB ubw ubu ubd ucm ucw ucf) := hD
        refine lv_aload_n hx hb dX7_guest_94 rfl (lv_at hl 0 rfl) ?_
        refine lv_iload_n hx hb dX7_guest_95 rfl (lv_at hl 1 rfl) ?_
        refine zcallI (ci := 7) (q0 := 0) (As := [.int a1]) (rest := [.int r_9]) (wr := ([] : va_W)) (Wn := fun u => (kModel kI uo ur ux ut un uf uw ub uR uk uX ul uT ui uN uF uW uB ubw ubu ubd ucm ucw ucf)) ⟨hx, hb, hml, hown, hts⟩ (c_X7_total l dC dI kI kA kC uo ur ux ut un uf uw ub _ uR uk uX ul uT ui uN uF uW uB ubw ubu ubd ucm ucw ucf a1 _ hw) (cwV 1 hts gX7_guest_X7_total rfl rfl rfl (by decide +kernel) ⟨Nat.le_of_ble_eq_true rfl, Nat.le_of_ble_eq_true rfl⟩) hK hP hD hS hA [0, 1, 2, 3, 4, 5, 6, 7] [] [0, 1, 2, 3, 4, 5, 6, 7] rfl rfl (by decide) (by decide) (by decide) (fun u => rfl) (by decide) rfl rfl rfl rfl hl.1 rfl (Nat.le_of_ble_eq_true rfl) dX7_guest_96 ⟨Nat.zero_le _, Nat.zero_le _⟩ (fun r_10 u H locs hw hP hD hS => ?_)
        have hP : va_P (dC, dI) vwCl (kModel kI uo ur ux ut un uf uw ub uR uk uX ul uT ui uN uF uW uB ubw ubu ubd ucm ucw ucf) H := hP
        have hD : va_D A (kModel kI uo ur ux ut un uf uw ub uR uk uX ul uT ui uN uF uW uB ubw ubu ubd ucm ucw ucf) := hD
        refine lv_iconst (v := (0 : Int32)) hx hb dX7_guest_99 (by decide) ?_
        refine zcallS (As := [.int r_9, .int r_10, .int (0 : Int32)]) (rest := []) (wr := (kModel kI uo ur ux ut un uf uw ub uR uk uX ul uT ui uN uF uW uB ubw ubu ubd ucm ucw ucf)) (Wn := fun u => (kModel kI uo ur ux ut un uf uw ub uR uk uX ul uT ui uN uF uW uB ubw ubu ubd ucm ucw ucf)) ⟨hx, hb, hml, hown, hts⟩ (c_X7_part l dC dI kI kA kC _ r_9 r_10 (0 : Int32) _ hw) (va_cwS 3 hts gX7_guest_X7_part rfl rfl rfl (by decide +kernel) ⟨Nat.le_of_ble_eq_true rfl, Nat.le_of_ble_eq_true rfl⟩) hK hP hD hS hA [] [0, 1, 2, 3, 4, 5, 6, 7] [0, 1, 2, 3, 4, 5, 6, 7] rfl rfl (by decide) (by decide) (by decide) (fun u => rfl) (by decide) rfl hl.1 rfl (Nat.le_of_ble_eq_true rfl) dX7_guest_100 ⟨Nat.zero_le _, Nat.zero_le _⟩ (fun r_11 u H locs hw hP hD hS => ?_)
        have hP : va_P (dC, dI) vwCl (kModel kI uo ur ux ut un uf uw ub uR uk uX ul uT ui uN uF uW uB ubw ubu ubd ucm ucw ucf) H := hP
        have hD : va_D A (kModel kI uo ur ux ut un uf uw ub uR uk uX ul uT ui uN uF uW uB ubw ubu ubd ucm ucw ucf) := hD
        exact hret 103 r_11 () _ _ _ (fun h => absurd h (by decide)) hw hP hD hS dX7_guest_103
      · have c_14 : a2 = (5 : Int32) := c_14
        have hw := hw.2.2.2.2.2.1 c_14
        refine lv_tableIn (off := 93) (tgt := 104) hx hb dX7_guest_11 (by rw [c_14]; decide) (by rw [c_14]; decide) (by rw [c_14]; decide) (by decide) ?_
        refine lv_aload_n hx hb dX7_guest_104 rfl (lv_at hl 0 rfl) ?_
        refine lv_iload_n hx hb dX7_guest_105 rfl (lv_at hl 1 rfl) ?_
        refine lv_iconst (v := (1 : Int32)) hx hb dX7_guest_106 (by decide) ?_
        refine zcallI (ci := 7) (q0 := 0) (As := [.int a1, .int (1 : Int32)]) (rest := []) (wr := ([] : va_W)) (Wn := fun u => (kModel kI uo ur ux ut un uf uw ub uR uk uX ul uT ui uN uF uW uB ubw ubu ubd ucm ucw ucf)) ⟨hx, hb, hml, hown, hts⟩ (c_X7_crumbsOf l dC dI kI kA kC uo ur ux ut un uf uw ub _ uR uk uX ul uT ui uN uF uW uB ubw ubu ubd ucm ucw ucf a1 (1 : Int32) _ hw) (cwV 2 hts gX7_guest_X7_crumbsOf rfl rfl rfl (by decide +kernel) ⟨Nat.le_of_ble_eq_true rfl, Nat.le_of_ble_eq_true rfl⟩) hK hP hD hS hA [0, 1, 2, 3, 4, 5, 6, 7] [] [0, 1, 2, 3, 4, 5, 6, 7] rfl rfl (by decide) (by decide) (by decide) (fun u => rfl) (by decide) rfl rfl rfl rfl hl.1 rfl (Nat.le_of_ble_eq_true rfl) dX7_guest_107 ⟨Nat.zero_le _, Nat.zero_le _⟩ (fun r_12 u H locs hw hP hD hS => ?_)
        have hP : va_P (dC, dI) vwCl (kModel kI uo ur ux ut un uf uw ub uR uk uX ul uT ui uN uF uW uB ubw ubu ubd ucm ucw ucf) H := hP
        have hD : va_D A (kModel kI uo ur ux ut un uf uw ub uR uk uX ul uT ui uN uF uW uB ubw ubu ubd ucm ucw ucf) := hD
        exact hret 110 r_12 () _ _ _ (fun h => absurd h (by decide)) hw hP hD hS dX7_guest_110
      · have c_14 : a2 = (6 : Int32) := c_14
        have hw := hw.2.2.2.2.2.2.1 c_14
        refine lv_tableIn (off := 100) (tgt := 111) hx hb dX7_guest_11 (by rw [c_14]; decide) (by rw [c_14]; decide) (by rw [c_14]; decide) (by decide) ?_
        refine lv_aload_n hx hb dX7_guest_111 rfl (lv_at hl 0 rfl) ?_
        refine lv_iload_n hx hb dX7_guest_112 rfl (lv_at hl 1 rfl) ?_
        refine lv_bipush (v := (-9 : Int32)) hx hb dX7_guest_113 (by decide) ?_
        refine zcallI (ci := 7) (q0 := 0) (As := [.int a1, .int (-9 : Int32)]) (rest := []) (wr := ([] : va_W)) (Wn := fun u => (kModel kI uo ur ux ut un uf uw ub uR uk uX ul uT ui uN uF uW uB ubw ubu ubd ucm ucw ucf)) ⟨hx, hb, hml, hown, hts⟩ (c_X7_pieceValue l dC dI kI kA kC uo ur ux ut un uf uw ub _ uR uk uX ul uT ui uN uF uW uB ubw ubu ubd ucm ucw ucf a1 (-9 : Int32) _ hw) (cwV 2 hts gX7_guest_X7_pieceValue rfl rfl rfl (by decide +kernel) ⟨Nat.le_of_ble_eq_true rfl, Nat.le_of_ble_eq_true rfl⟩) hK hP hD hS hA [0, 1, 2, 3, 4, 5, 6, 7] [] [0, 1, 2, 3, 4, 5, 6, 7] rfl rfl (by decide) (by decide) (by decide) (fun u => rfl) (by decide) rfl rfl rfl rfl hl.1 rfl (Nat.le_of_ble_eq_true rfl) dX7_guest_115 ⟨Nat.zero_le _, Nat.zero_le _⟩ (fun r_13 u H locs hw hP hD hS => ?_)
        have hP : va_P (dC, dI) vwCl (kModel kI uo ur ux ut un uf uw ub uR uk uX ul uT ui uN uF uW uB ubw ubu ubd ucm ucw ucf) H := hP
        have hD : va_D A (kModel kI uo ur ux ut un uf uw ub uR uk uX ul uT ui uN uF uW uB ubw ubu ubd ucm ucw ucf) := hD
        exact hret 118 r_13 () _ _ _ (fun h => absurd h (by decide)) hw hP hD hS dX7_guest_118
  · have hw := hw.2 c_2
    refine lv_iconst (v := (-1 : Int32)) hx hb dX7_guest_8 (by decide) ?_
    exact hret 9 (-1 : Int32) () _ _ _ (fun h => absurd h (by decide)) hw hP hD hS dX7_guest_9
-- CakeMarksModel.crumb(I)I
def Wp_X7_crumb (uR : Nat → Int32) (a1 : Int32) (Z : Int32 → Prop) : Prop := (Wp_X7_in a1 (0 : Int32) (23 : Int32) (fun r_1 => ((r_1 = (0 : Int32) → (Z (-1 : Int32))) ∧ (¬ r_1 = (0 : Int32) → (vp_in ((1 : Int32) + a1) 847 ∧ (Z (uR ((1 : Int32) + a1).toNatClampNeg)))))))
theorem in_X7_crumb_X7 : ∀ w ∈ u_ws RX7 TX7 16, w ∈ wsX7_crumb := fun w h => List.mem_cons_of_mem _ (List.mem_append_right _ h)
set_option maxHeartbeats 20000000 in
set_option maxRecDepth 100000 in
theorem c_X7_crumb (l : Launch) (dC : Nat → ClassId) (dI : Nat → Nat → Nat) (kI kA kC : ClassId) (uo : Nat) (ur : Nat) (ux : Nat) (ut : Nat) (un : Nat) (uf : Nat) (uw : Nat) (ub : Nat) (sz : Nat) (uR : Nat → Int32) (uk : Int32) (uX : Nat → Int32) (ul : Int32) (uT : Nat → Int32) (ui : Int32) (uN : Nat → Int32) (uF : Nat → Int32) (uW : Nat → Int32) (uB : Nat → Int32) (ubw : Int32) (ubu : Int32) (ubd : Int32) (ucm : Int32) (ucw : Int32) (ucf : Int32) (a1 : Int32) (Z : Int32 → Prop) (hw : Wp_X7_crumb uR a1 Z) : zI l yX7_crumb wsX7_crumb ({ frames := 1, cells := 0, slots := 0, locals := 22 }) dC dI kI kA kC sz 0 0 [.ref uo, .int a1] (kModel kI uo ur ux ut un uf uw ub uR uk uX ul uT ui uN uF uW uB ubw ubu ubd ucm ucw ucf) (fun (r : Int32) (u : Unit) => Z r ) (fun (u : Unit) => (kModel kI uo ur ux ut un uf uw ub uR uk uX ul uT ui uN uF uW uB ubw ubu ubd ucm ucw ucf)) := by
  refine zI.of (cc := cX7_crumb) (maxL := 2) (ty := .int) (by decide) rfl (Nat.le_of_ble_eq_true rfl) (Or.inl rfl) ?_
  intro p e s m args below meth c A Q C0 hret ls hl
  obtain ⟨hx, hb, hr, hml, hts, hown, hin, hP, hK, hD, hA, hS⟩ := C0
  have hown : s.vm.findClass RX7 = some m.cls := hown
  have hl : lv_has ls 2 [(0, .ref uo), (1, .int a1)] := hl
  unfold Wp_X7_crumb at hw
  refine lv_iload_n hx hb dX7_crumb_0 rfl (lv_at hl 1 rfl) ?_
  refine lv_iconst (v := (0 : Int32)) hx hb dX7_crumb_1 (by decide) ?_
  refine lv_bipush (v := (23 : Int32)) hx hb dX7_crumb_2 (by decide) ?_
  refine zcallS (As := [.int a1, .int (0 : Int32), .int (23 : Int32)]) (rest := []) (wr := (kModel kI uo ur ux ut un uf uw ub uR uk uX ul uT ui uN uF uW uB ubw ubu ubd ucm ucw ucf)) (Wn := fun u => (kModel kI uo ur ux ut un uf uw ub uR uk uX ul uT ui uN uF uW uB ubw ubu ubd ucm ucw ucf)) ⟨hx, hb, hml, hown, hts⟩ (c_X7_in l dC dI kI kA kC _ a1 (0 : Int32) (23 : Int32) _ hw) (va_cwS 3 hts gX7_crumb_X7_in rfl rfl rfl (by decide +kernel) ⟨Nat.le_of_ble_eq_true rfl, Nat.le_of_ble_eq_true rfl⟩) hK hP hD hS hA [] [0, 1, 2, 3, 4, 5, 6, 7] [0, 1, 2, 3, 4, 5, 6, 7] rfl rfl (by decide) (by decide) (by decide) (fun u => rfl) (by decide) rfl hl.1 rfl (Nat.le_of_ble_eq_true rfl) dX7_crumb_4 ⟨Nat.zero_le _, Nat.zero_le _⟩ (fun r_1 u H locs hw hP hD hS => ?_)
  have hP : va_P (dC, dI) vwCl (kModel kI uo ur ux ut un uf uw ub uR uk uX ul uT ui uN uF uW uB ubw ubu ubd ucm ucw ucf) H := hP
  have hD : va_D A (kModel kI uo ur ux ut un uf uw ub uR uk uX ul uT ui uN uF uW uB ubw ubu ubd ucm ucw ucf) := hD
  refine lv_if_eq (tgt := 21) hx hb dX7_crumb_7 (by decide) (fun c_2 => ?_) (fun c_2 => ?_)
  · have hw := hw.1 c_2
    refine lv_iconst (v := (-1 : Int32)) hx hb dX7_crumb_21 (by decide) ?_
    exact hret 22 (-1 : Int32) () _ _ _ (fun h => absurd h (by decide)) hw hP hD hS dX7_crumb_22
  · have hw := hw.2 c_2
    refine lv_aload_n hx hb dX7_crumb_10 rfl (lv_at hl 0 rfl) ?_
    refine va_get (D := (dC, dI)) (ci := 7) (v := .ref ur) (C := RX7) (T := TX7) (N := 16) hx hb hts in_X7_crumb_X7 hown hK hP 0 rfl rfl 0 (by decide) (hts (.fieldLink RX7 7 "CakeMarksModel" "row" "[I") (List.mem_of_getElem? (i := 1) rfl)) (fun _ h9 => h9) rfl dX7_crumb_11 ?_
    refine lv_iconst (v := (1 : Int32)) hx hb dX7_crumb_14 (by decide) ?_
    refine lv_iload_n hx hb dX7_crumb_15 rfl (lv_at hl 1 rfl) ?_
    refine lv_iadd hx hb dX7_crumb_16 ?_
    obtain ⟨h_3, hw⟩ := hw
    refine va_iald hx hb hK hP 1 0 rfl rfl h_3 dX7_crumb_17 ?_
    refine lv_goto (tgt := 22) hx hb dX7_crumb_18 (by decide) ?_
    exact hret 22 (uR ((1 : Int32) + a1).toNatClampNeg) () _ _ _ (fun h => absurd h (by decide)) hw hP hD hS dX7_crumb_22
-- CakeMarksModel.value(II)I
def Wp_X7_value (uR : Nat → Int32) (a1 : Int32) (a2 : Int32) (Z : Int32 → Prop) : Prop := (Wp_X7_isGuest uR a1 (fun r_1 => ((r_1 = (0 : Int32) → (Z (-1 : Int32))) ∧ (¬ r_1 = (0 : Int32) → (Wp_X7_in a2 (0 : Int32) (23 : Int32) (fun r_3 => ((r_3 = (0 : Int32) → (Z (-1 : Int32))) ∧ (¬ r_3 = (0 : Int32) → (Wp_X7_valueOf uR a1 a2 (fun r_5 => (Z r_5)))))))))))
set_option maxHeartbeats 20000000 in
set_option maxRecDepth 100000 in
theorem c_X7_value (l : Launch) (dC : Nat → ClassId) (dI : Nat → Nat → Nat) (kI kA kC : ClassId) (uo : Nat) (ur : Nat) (ux : Nat) (ut : Nat) (un : Nat) (uf : Nat) (uw : Nat) (ub : Nat) (sz : Nat) (uR : Nat → Int32) (uk : Int32) (uX : Nat → Int32) (ul : Int32) (uT : Nat → Int32) (ui : Int32) (uN : Nat → Int32) (uF : Nat → Int32) (uW : Nat → Int32) (uB : Nat → Int32) (ubw : Int32) (ubu : Int32) (ubd : Int32) (ucm : Int32) (ucw : Int32) (ucf : Int32) (a1 : Int32) (a2 : Int32) (Z : Int32 → Prop) (hw : Wp_X7_value uR a1 a2 Z) : zI l yX7_value wsX7_value ({ frames := 2, cells := 0, slots := 0, locals := 43 }) dC dI kI kA kC sz 0 0 [.ref uo, .int a1, .int a2] (kModel kI uo ur ux ut un uf uw ub uR uk uX ul uT ui uN uF uW uB ubw ubu ubd ucm ucw ucf) (fun (r : Int32) (u : Unit) => Z r ) (fun (u : Unit) => (kModel kI uo ur ux ut un uf uw ub uR uk uX ul uT ui uN uF uW uB ubw ubu ubd ucm ucw ucf)) := by
  refine zI.of (cc := cX7_value) (maxL := 3) (ty := .int) (by decide) rfl (Nat.le_of_ble_eq_true rfl) (Or.inl rfl) ?_
  intro p e s m args below meth c A Q C0 hret ls hl
  obtain ⟨hx, hb, hr, hml, hts, hown, hin, hP, hK, hD, hA, hS⟩ := C0
  have hown : s.vm.findClass RX7 = some m.cls := hown
  have hl : lv_has ls 3 [(0, .ref uo), (1, .int a1), (2, .int a2)] := hl
  unfold Wp_X7_value at hw
  refine lv_aload_n hx hb dX7_value_0 rfl (lv_at hl 0 rfl) ?_
  refine lv_iload_n hx hb dX7_value_1 rfl (lv_at hl 1 rfl) ?_
  refine zcallI (ci := 7) (q0 := 0) (As := [.int a1]) (rest := []) (wr := ([] : va_W)) (Wn := fun u => (kModel kI uo ur ux ut un uf uw ub uR uk uX ul uT ui uN uF uW uB ubw ubu ubd ucm ucw ucf)) ⟨hx, hb, hml, hown, hts⟩ (c_X7_isGuest l dC dI kI kA kC uo ur ux ut un uf uw ub _ uR uk uX ul uT ui uN uF uW uB ubw ubu ubd ucm ucw ucf a1 _ hw) (cwV 1 hts gX7_value_X7_isGuest rfl rfl rfl (by decide +kernel) ⟨Nat.le_of_ble_eq_true rfl, Nat.le_of_ble_eq_true rfl⟩) hK hP hD hS hA [0, 1, 2, 3, 4, 5, 6, 7] [] [0, 1, 2, 3, 4, 5, 6, 7] rfl rfl (by decide) (by decide) (by decide) (fun u => rfl) (by decide) rfl rfl rfl rfl hl.1 rfl (Nat.le_of_ble_eq_true rfl) dX7_value_2 ⟨Nat.zero_le _, Nat.zero_le _⟩ (fun r_1 u H locs hw hP hD hS => ?_)
  have hP : va_P (dC, dI) vwCl (kModel kI uo ur ux ut un uf uw ub uR uk uX ul uT ui uN uF uW uB ubw ubu ubd ucm ucw ucf) H := hP
  have hD : va_D A (kModel kI uo ur ux ut un uf uw ub uR uk uX ul uT ui uN uF uW uB ubw ubu ubd ucm ucw ucf) := hD
  refine lv_if_eq (tgt := 27) hx hb dX7_value_5 (by decide) (fun c_2 => ?_) (fun c_2 => ?_)
  · have hw := hw.1 c_2
    refine lv_iconst (v := (-1 : Int32)) hx hb dX7_value_27 (by decide) ?_
    exact hret 28 (-1 : Int32) () _ _ _ (fun h => absurd h (by decide)) hw hP hD hS dX7_value_28
  · have hw := hw.2 c_2
    refine lv_iload_n hx hb dX7_value_8 rfl (lv_at hl 2 rfl) ?_
    refine lv_iconst (v := (0 : Int32)) hx hb dX7_value_9 (by decide) ?_
    refine lv_bipush (v := (23 : Int32)) hx hb dX7_value_10 (by decide) ?_
    refine zcallS (As := [.int a2, .int (0 : Int32), .int (23 : Int32)]) (rest := []) (wr := (kModel kI uo ur ux ut un uf uw ub uR uk uX ul uT ui uN uF uW uB ubw ubu ubd ucm ucw ucf)) (Wn := fun u => (kModel kI uo ur ux ut un uf uw ub uR uk uX ul uT ui uN uF uW uB ubw ubu ubd ucm ucw ucf)) ⟨hx, hb, hml, hown, hts⟩ (c_X7_in l dC dI kI kA kC _ a2 (0 : Int32) (23 : Int32) _ hw) (va_cwS 3 hts gX7_value_X7_in rfl rfl rfl (by decide +kernel) ⟨Nat.le_of_ble_eq_true rfl, Nat.le_of_ble_eq_true rfl⟩) hK hP hD hS hA [] [0, 1, 2, 3, 4, 5, 6, 7] [0, 1, 2, 3, 4, 5, 6, 7] rfl rfl (by decide) (by decide) (by decide) (fun u => rfl) (by decide) rfl hl.1 rfl (Nat.le_of_ble_eq_true rfl) dX7_value_12 ⟨Nat.zero_le _, Nat.zero_le _⟩ (fun r_3 u H locs hw hP hD hS => ?_)
    have hP : va_P (dC, dI) vwCl (kModel kI uo ur ux ut un uf uw ub uR uk uX ul uT ui uN uF uW uB ubw ubu ubd ucm ucw ucf) H := hP
    have hD : va_D A (kModel kI uo ur ux ut un uf uw ub uR uk uX ul uT ui uN uF uW uB ubw ubu ubd ucm ucw ucf) := hD
    refine lv_if_eq (tgt := 27) hx hb dX7_value_15 (by decide) (fun c_4 => ?_) (fun c_4 => ?_)
    · have hw := hw.1 c_4
      refine lv_iconst (v := (-1 : Int32)) hx hb dX7_value_27 (by decide) ?_
      exact hret 28 (-1 : Int32) () _ _ _ (fun h => absurd h (by decide)) hw hP hD hS dX7_value_28
    · have hw := hw.2 c_4
      refine lv_aload_n hx hb dX7_value_18 rfl (lv_at hl 0 rfl) ?_
      refine lv_iload_n hx hb dX7_value_19 rfl (lv_at hl 1 rfl) ?_
      refine lv_iload_n hx hb dX7_value_20 rfl (lv_at hl 2 rfl) ?_
      refine zcallI (ci := 7) (q0 := 0) (As := [.int a1, .int a2]) (rest := []) (wr := ([] : va_W)) (Wn := fun u => (kModel kI uo ur ux ut un uf uw ub uR uk uX ul uT ui uN uF uW uB ubw ubu ubd ucm ucw ucf)) ⟨hx, hb, hml, hown, hts⟩ (c_X7_valueOf l dC dI kI kA kC uo ur ux ut un uf uw ub _ uR uk uX ul uT ui uN uF uW uB ubw ubu ubd ucm ucw ucf a1 a2 _ hw) (cwV 2 hts gX7_value_X7_valueOf rfl rfl rfl (by decide +kernel) ⟨Nat.le_of_ble_eq_true rfl, Nat.le_of_ble_eq_true rfl⟩) hK hP hD hS hA [0, 1, 2, 3, 4, 5, 6, 7] [] [0, 1, 2, 3, 4, 5, 6, 7] rfl rfl (by decide) (by decide) (by decide) (fun u => rfl) (by decide) rfl rfl rfl rfl hl.1 rfl (Nat.le_of_ble_eq_true rfl) dX7_value_21 ⟨Nat.zero_le _, Nat.zero_le _⟩ (fun r_5 u H locs hw hP hD hS => ?_)
      have hP : va_P (dC, dI) vwCl (kModel kI uo ur ux ut un uf uw ub uR uk uX ul uT ui uN uF uW uB ubw ubu ubd ucm ucw ucf) H := hP
      have hD : va_D A (kModel kI uo ur ux ut un uf uw ub uR uk uX ul uT ui uN uF uW uB ubw ubu ubd ucm ucw ucf) := hD
      refine lv_goto (tgt := 28) hx hb dX7_value_24 (by decide) ?_
      exact hret 28 r_5 () _ _ _ (fun h => absurd h (by decide)) hw hP hD hS dX7_value_28
-- CakeMarksModel.envy(II)I
def Wp_X7_envy (uR : Nat → Int32) (a1 : Int32) (a2 : Int32) (Z : Int32 → Prop) : Prop := (Wp_X7_areGuests uR a1 a2 (fun r_1 => ((r_1 = (0 : Int32) → (Z (-1 : Int32))) ∧ (¬ r_1 = (0 : Int32) → (Wp_X7_envyOf uR a1 a2 (fun r_3 => (Z r_3)))))))
set_option maxHeartbeats 20000000 in
set_option maxRecDepth 100000 in
theorem c_X7_envy (l : Launch) (dC : Nat → ClassId) (dI : Nat → Nat → Nat) (kI kA kC : ClassId) (uo : Nat) (ur : Nat) (ux : Nat) (ut : Nat) (un : Nat) (uf : Nat) (uw : Nat) (ub : Nat) (sz : Nat) (uR : Nat → Int32) (uk : Int32) (uX : Nat → Int32) (ul : Int32) (uT : Nat → Int32) (ui : Int32) (uN : Nat → Int32) (uF : Nat → Int32) (uW : Nat → Int32) (uB : Nat → Int32) (ubw : Int32) (ubu : Int32) (ubd : Int32) (ucm : Int32) (ucw : Int32) (ucf : Int32) (a1 : Int32) (a2 : Int32) (Z : Int32 → Prop) (hw : Wp_X7_envy uR a1 a2 Z) : zI l yX7_envy wsX7_envy ({ frames := 3, cells := 0, slots := 0, locals := 69 }) dC dI kI kA kC sz 0 0 [.ref uo, .int a1, .int a2] (kModel kI uo ur ux ut un uf uw ub uR uk uX ul uT ui uN uF uW uB ubw ubu ubd ucm ucw ucf) (fun (r : Int32) (u : Unit) => Z r ) (fun (u : Unit) => (kModel kI uo ur ux ut un uf uw ub uR uk uX ul uT ui uN uF uW uB ubw ubu ubd ucm ucw ucf)) := by
  refine zI.of (cc := cX7_envy) (maxL := 3) (ty := .int) (by decide) rfl (Nat.le_of_ble_eq_true rfl) (Or.inl rfl) ?_
  intro p e s m args below meth c A Q C0 hret ls hl
  obtain ⟨hx, hb, hr, hml, hts, hown, hin, hP, hK, hD, hA, hS⟩ := C0
  have hown : s.vm.findClass RX7 = some m.cls := hown
  have hl : lv_has ls 3 [(0, .ref uo), (1, .int a1), (2, .int a2)] := hl
  unfold Wp_X7_envy at hw
  refine lv_aload_n hx hb dX7_envy_0 rfl (lv_at hl 0 rfl) ?_
  refine lv_iload_n hx hb dX7_envy_1 rfl (lv_at hl 1 rfl) ?_
  refine lv_iload_n hx hb dX7_envy_2 rfl (lv_at hl 2 rfl) ?_
  refine zcallI (ci := 7) (q0 := 0) (As := [.int a1, .int a2]) (rest := []) (wr := ([] : va_W)) (Wn := fun u => (kModel kI uo ur ux ut un uf uw ub uR uk uX ul uT ui uN uF uW uB ubw ubu ubd ucm ucw ucf)) ⟨hx, hb, hml, hown, hts⟩ (c_X7_areGuests l dC dI kI kA kC uo ur ux ut un uf uw ub _ uR uk uX ul uT ui uN uF uW uB ubw ubu ubd ucm ucw ucf a1 a2 _ hw) (cwV 2 hts gX7_envy_X7_areGuests rfl rfl rfl (by decide +kernel) ⟨Nat.le_of_ble_eq_true rfl, Nat.le_of_ble_eq_true rfl⟩) hK hP hD hS hA [0, 1, 2, 3, 4, 5, 6, 7] [] [0, 1, 2, 3, 4, 5, 6, 7] rfl rfl (by decide) (by decide) (by decide) (fun u => rfl) (by decide) rfl rfl rfl rfl hl.1 rfl (Nat.le_of_ble_eq_true rfl) dX7_envy_3 ⟨Nat.zero_le _, Nat.zero_le _⟩ (fun r_1 u H locs hw hP hD hS => ?_)
  have hP : va_P (dC, dI) vwCl (kModel kI uo ur ux ut un uf uw ub uR uk uX ul uT ui uN uF uW uB ubw ubu ubd ucm ucw ucf) H := hP
  have hD : va_D A (kModel kI uo ur ux ut un uf uw ub uR uk uX ul uT ui uN uF uW uB ubw ubu ubd ucm ucw ucf) := hD
  refine lv_if_eq (tgt := 18) hx hb dX7_envy_6 (by decide) (fun c_2 => ?_) (fun c_2 => ?_)
  · have hw := hw.1 c_2
    refine lv_iconst (v := (-1 : Int32)) hx hb dX7_envy_18 (by decide) ?_
    exact hret 19 (-1 : Int32) () _ _ _ (fun h => absurd h (by decide)) hw hP hD hS dX7_envy_19
  · have hw := hw.2 c_2
    refine lv_aload_n hx hb dX7_envy_9 rfl (lv_at hl 0 rfl) ?_
    refine lv_iload_n hx hb dX7_envy_10 rfl (lv_at hl 1 rfl) ?_
    refine lv_iload_n hx hb dX7_envy_11 rfl (lv_at hl 2 rfl) ?_
    refine zcallI (ci := 7) (q0 := 0) (As := [.int a1, .int a2]) (rest := []) (wr := ([] : va_W)) (Wn := fun u => (kModel kI uo ur ux ut un uf uw ub uR uk uX ul uT ui uN uF uW uB ubw ubu ubd ucm ucw ucf)) ⟨hx, hb, hml, hown, hts⟩ (c_X7_envyOf l dC dI kI kA kC uo ur ux ut un uf uw ub _ uR uk uX ul uT ui uN uF uW uB ubw ubu ubd ucm ucw ucf a1 a2 _ hw) (cwV 2 hts gX7_envy_X7_envyOf rfl rfl rfl (by decide +kernel) ⟨Nat.le_of_ble_eq_true rfl, Nat.le_of_ble_eq_true rfl⟩) hK hP hD hS hA [0, 1, 2, 3, 4, 5, 6, 7] [] [0, 1, 2, 3, 4, 5, 6, 7] rfl rfl (by decide) (by decide) (by decide) (fun u => rfl) (by decide) rfl rfl rfl rfl hl.1 rfl (Nat.le_of_ble_eq_true rfl) dX7_envy_12 ⟨Nat.zero_le _, Nat.zero_le _⟩ (fun r_3 u H locs hw hP hD hS => ?_)
    have hP : va_P (dC, dI) vwCl (kModel kI uo ur ux ut un uf uw ub uR uk uX ul uT ui uN uF uW uB ubw ubu ubd ucm ucw ucf) H := hP
    have hD : va_D A (kModel kI uo ur ux ut un uf uw ub uR uk uX ul uT ui uN uF uW uB ubw ubu ubd ucm ucw ucf) := hD
    refine lv_goto (tgt := 19) hx hb dX7_envy_15 (by decide) ?_
    exact hret 19 r_3 () _ _ _ (fun h => absurd h (by decide)) hw hP hD hS dX7_envy_19
-- CakeMarksModel.ring(I)I
def Wp_X7_ring (uR : Nat → Int32) (uN : Nat → Int32) (a1 : Int32) (Z : Int32 → (Nat → Int32) → Prop) : Prop := (((0 : Int32) ≤ a1 → (Wp_X7_layRing uR uN (fun r_3 uN_2 => ((r_3 ≤ a1 → (Z (-9 : Int32) uN_2)) ∧ (¬ r_3 ≤ a1 → (vp_in a1 4 ∧ (Z (uN_2 a1.toNatClampNeg) uN_2))))))) ∧ (¬ (0 : Int32) ≤ a1 → (Z (-1 : Int32) uN)))
theorem in_X7_ring_X7 : ∀ w ∈ u_ws RX7 TX7 16, w ∈ wsX7_ring := fun w h => List.mem_cons_of_mem _ (List.mem_append_right _ h)
set_option maxHeartbeats 20000000 in
set_option maxRecDepth 100000 in
theorem c_X7_ring (l : Launch) (dC : Nat → ClassId) (dI : Nat → Nat → Nat) (kI kA kC : ClassId) (uo : Nat) (ur : Nat) (ux : Nat) (ut : Nat) (un : Nat) (uf : Nat) (uw : Nat) (ub : Nat) (sz : Nat) (uR : Nat → Int32) (uk : Int32) (uX : Nat → Int32) (ul : Int32) (uT : Nat → Int32) (ui : Int32) (uN : Nat → Int32) (uF : Nat → Int32) (uW : Nat → Int32) (uB : Nat → Int32) (ubw : Int32) (ubu : Int32) (ubd : Int32) (ucm : Int32) (ucw : Int32) (ucf : Int32) (a1 : Int32) (Z : Int32 → (Nat → Int32) → Prop) (hw : Wp_X7_ring uR uN a1 Z) : zI l yX7_ring wsX7_ring ({ frames := 5, cells := 0, slots := 0, locals := 119 }) dC dI kI kA kC sz 0 0 [.ref uo, .int a1] (kModel kI uo ur ux ut un uf uw ub uR uk uX ul uT ui uN uF uW uB ubw ubu ubd ucm ucw ucf) (fun (r : Int32) (u : (Nat → Int32)) => Z r u) (fun (u : (Nat → Int32)) => (kModel kI uo ur ux ut un uf uw ub uR uk uX ul uT ui u uF uW uB ubw ubu ubd ucm ucw ucf)) := by
  refine zI.of (cc := cX7_ring) (maxL := 2) (ty := .int) (by decide) rfl (Nat.le_of_ble_eq_true rfl) (Or.inl rfl) ?_
  intro p e s m args below meth c A Q C0 hret ls hl
  obtain ⟨hx, hb, hr, hml, hts, hown, hin, hP, hK, hD, hA, hS⟩ := C0
  have hown : s.vm.findClass RX7 = some m.cls := hown
  have hl : lv_has ls 2 [(0, .ref uo), (1, .int a1)] := hl
  unfold Wp_X7_ring at hw
  refine lv_iload_n hx hb dX7_ring_0 rfl (lv_at hl 1 rfl) ?_
  refine lv_if_ge (tgt := 6) hx hb dX7_ring_1 (by decide) (fun c_1 => ?_) (fun c_1 => ?_)
  · have hw := hw.1 c_1
    refine lv_iload_n hx hb dX7_ring_6 rfl (lv_at hl 1 rfl) ?_
    refine lv_aload_n hx hb dX7_ring_7 rfl (lv_at hl 0 rfl) ?_
    refine zcallI (ci := 7) (q0 := 0) (As := []) (rest := [.int a1]) (wr := ([] : va_W)) (Wn := fun u => (kModel kI uo ur ux ut un uf uw ub uR uk uX ul uT ui u uF uW uB ubw ubu ubd ucm ucw ucf)) ⟨hx, hb, hml, hown, hts⟩ (c_X7_layRing l dC dI kI kA kC uo ur ux ut un uf uw ub _ uR uk uX ul uT ui uN uF uW uB ubw ubu ubd ucm ucw ucf _ hw) (cwV 0 hts gX7_ring_X7_layRing rfl rfl rfl (by decide +kernel) ⟨Nat.le_of_ble_eq_true rfl, Nat.le_of_ble_eq_true rfl⟩) hK hP hD hS hA [0, 1, 2, 3, 4, 5, 6, 7] [] [0, 1, 2, 3, 4, 5, 6, 7] rfl rfl (by decide) (by decide) (by decide) (fun u => rfl) (by decide) rfl rfl rfl rfl hl.1 rfl (Nat.le_of_ble_eq_true rfl) dX7_ring_8 ⟨Nat.zero_le _, Nat.zero_le _⟩ (fun r_3 uN_2 H locs hw hP hD hS => ?_)
    have hP : va_P (dC, dI) vwCl (kModel kI uo ur ux ut un uf uw ub uR uk uX ul uT ui uN_2 uF uW uB ubw ubu ubd ucm ucw ucf) H := hP
    have hD : va_D A (kModel kI uo ur ux ut un uf uw ub uR uk uX ul uT ui uN_2 uF uW uB ubw ubu ubd ucm ucw ucf) := hD
    refine lv_icmp_ge (tgt := 23) hx hb dX7_ring_11 (by decide) (fun c_4 => ?_) (fun c_4 => ?_)
    · have hw := hw.1 c_4
      refine lv_bipush (v := (-9 : Int32)) hx hb dX7_ring_23 (by decide) ?_
      exact hret 25 (-9 : Int32) uN_2 _ _ _ (fun h => absurd h (by decide)) hw hP hD hS dX7_ring_25
    · have hw := hw.2 c_4
      refine lv_aload_n hx hb dX7_ring_14 rfl (lv_at hl 0 rfl) ?_
      refine va_get (D := (dC, dI)) (ci := 7) (v := .ref un) (C := RX7) (T := TX7) (N := 16) hx hb hts in_X7_ring_X7 hown hK hP 0 rfl rfl 6 (by decide) (hts (.fieldLink RX7 19 "CakeMarksModel" "ring" "[I") (List.mem_of_getElem? (i := 1) rfl)) (fun _ h9 => h9) rfl dX7_ring_15 ?_
      refine lv_iload_n hx hb dX7_ring_18 rfl (lv_at hl 1 rfl) ?_
      obtain ⟨h_5, hw⟩ := hw
      refine va_iald hx hb hK hP 4 0 rfl rfl h_5 dX7_ring_19 ?_
      refine lv_goto (tgt := 25) hx hb dX7_ring_20 (by decide) ?_
      exact hret 25 (uN_2 a1.toNatClampNeg) uN_2 _ _ _ (fun h => absurd h (by decide)) hw hP hD hS dX7_ring_25
  · have hw := hw.2 c_1
    refine lv_iconst (v := (-1 : Int32)) hx hb dX7_ring_4 (by decide) ?_
    exact hret 5 (-1 : Int32) uN _ _ _ (fun h => absurd h (by decide)) hw hP hD hS dX7_ring_5
