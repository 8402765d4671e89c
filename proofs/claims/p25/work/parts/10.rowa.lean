-- CakeMarks$Row.placeOf(I)I
def B_X4_placeOf_2 (rT : Nat → Int32) (rs : Int32) (a1 : Int32) (Z : Int32 → Prop) (J2 : Int32 → Prop) (x2 : Int32) : Prop := ((rs ≤ x2 → (Z rs)) ∧ (¬ rs ≤ x2 → (vp_in x2 4 ∧ ((¬ (rT x2.toNatClampNeg) = a1 → (J2 (x2 + (1 : Int32)))) ∧ ((rT x2.toNatClampNeg) = a1 → (Z x2))))))
def Wp_X4_placeOf_2 (rT : Nat → Int32) (rs : Int32) (a1 : Int32) (Z : Int32 → Prop) (x2 : Int32) : Prop := ∀ (I2 : Int32 → Prop), (∀ (J2 : Int32 → Prop), (∀ (x2 : Int32), J2 x2 → I2 x2) → ∀ (x2 : Int32), B_X4_placeOf_2 rT rs a1 Z J2 x2 → I2 x2) → I2 x2
theorem F_X4_placeOf_2 (rT : Nat → Int32) (rs : Int32) (a1 : Int32) (Z : Int32 → Prop) (x2 : Int32) (h : B_X4_placeOf_2 rT rs a1 Z (Wp_X4_placeOf_2 rT rs a1 Z) x2) : Wp_X4_placeOf_2 rT rs a1 Z x2 := fun I2 h2 => h2 _ (fun x2 hx => hx I2 h2) x2 h
def Wp_X4_placeOf (rT : Nat → Int32) (rs : Int32) (a1 : Int32) (Z : Int32 → Prop) : Prop := ((Wp_X4_placeOf_2 rT rs a1 Z) (0 : Int32))
theorem in_X4_placeOf_X4 : ∀ w ∈ u_ws RX4 TX4 3, w ∈ wsX4_placeOf := fun w h => List.mem_cons_of_mem _ (List.mem_append_right _ h)
set_option maxHeartbeats 20000000 in
set_option maxRecDepth 100000 in
theorem c_X4_placeOf (l : Launch) (dC : Nat → ClassId) (dI : Nat → Nat → Nat) (kI kA kC : ClassId) (ro : Nat) (ra : Nat) (sz : Nat) (rT : Nat → Int32) (rs : Int32) (rg : Int32) (a1 : Int32) (Z : Int32 → Prop) (hw : Wp_X4_placeOf rT rs a1 Z) : zI l yX4_placeOf wsX4_placeOf ({ frames := 0, cells := 0, slots := 0, locals := 0 }) dC dI kI kA kC sz 0 0 [.ref ro, .int a1] (kRow kI ro ra rT rs rg) (fun (r : Int32) (u : Unit) => Z r ) (fun (u : Unit) => (kRow kI ro ra rT rs rg)) := by
  refine zI.of (cc := cX4_placeOf) (maxL := 3) (ty := .int) (by decide) rfl (Nat.le_of_ble_eq_true rfl) (Or.inl rfl) ?_
  intro p e s m args below meth c A Q C0 hret ls hl
  obtain ⟨hx, hb, hr, hml, hts, hown, hin, hP, hK, hD, hA, hS⟩ := C0
  have hown : s.vm.findClass RX4 = some m.cls := hown
  have hl : lv_has ls 3 [(0, .ref ro), (1, .int a1)] := hl
  have key : ∀ (J2 : Int32 → Prop) (hJ2 : ∀ (x2 : Int32), J2 x2 → ∀ (ls : Array Slot) (H : Heap) (locs : List Loc), lv_has ls 3 [(0, .ref ro), (1, .int a1), (2, .int x2)] → va_P (dC, dI) vwCl (kRow kI ro ra rT rs rg) H → va_D A (kRow kI ro ra rT rs rg) → va_S A s.heap H locs → W p l e ({ frames := 0, cells := 0, slots := 0, locals := 0 }) s m args below meth c H locs 0 0 Q (F0 m 2 ls [])), (∀ (x2 : Int32), B_X4_placeOf_2 rT rs a1 Z J2 x2 → ∀ (ls : Array Slot) (H : Heap) (locs : List Loc), lv_has ls 3 [(0, .ref ro), (1, .int a1), (2, .int x2)] → va_P (dC, dI) vwCl (kRow kI ro ra rT rs rg) H → va_D A (kRow kI ro ra rT rs rg) → va_S A s.heap H locs → W p l e ({ frames := 0, cells := 0, slots := 0, locals := 0 }) s m args below meth c H locs 0 0 Q (F0 m 2 ls [])) := by
    intro J2 hJ2
    · intro x2 hw ls H locs hl hP hD hS
      unfold B_X4_placeOf_2 at hw
      refine lv_iload_n hx hb dX4_placeOf_2 rfl (lv_at hl 2 rfl) ?_
      refine lv_aload_n hx hb dX4_placeOf_3 rfl (lv_at hl 0 rfl) ?_
      refine va_get (D := (dC, dI)) (ci := 4) (v := .int rs) (C := RX4) (T := TX4) (N := 3) hx hb hts in_X4_placeOf_X4 hown hK hP 0 rfl rfl 1 (by decide) (hts (.fieldLink RX4 15 "CakeMarks$Row" "size" "I") (List.mem_of_getElem? (i := 1) rfl)) (fun _ h9 => h9) rfl dX4_placeOf_4 ?_
      refine lv_icmp_ge (tgt := 28) hx hb dX4_placeOf_7 (by decide) (fun c_1 => ?_) (fun c_1 => ?_)
      · have hw := hw.1 c_1
        refine lv_aload_n hx hb dX4_placeOf_28 rfl (lv_at hl 0 rfl) ?_
        refine va_get (D := (dC, dI)) (ci := 4) (v := .int rs) (C := RX4) (T := TX4) (N := 3) hx hb hts in_X4_placeOf_X4 hown hK hP 0 rfl rfl 1 (by decide) (hts (.fieldLink RX4 15 "CakeMarks$Row" "size" "I") (List.mem_of_getElem? (i := 1) rfl)) (fun _ h9 => h9) rfl dX4_placeOf_29 ?_
        exact hret 32 rs () _ _ _ (fun h => absurd h (by decide)) hw hP hD hS dX4_placeOf_32
      · have hw := hw.2 c_1
        refine lv_aload_n hx hb dX4_placeOf_10 rfl (lv_at hl 0 rfl) ?_
        refine va_get (D := (dC, dI)) (ci := 4) (v := .ref ra) (C := RX4) (T := TX4) (N := 3) hx hb hts in_X4_placeOf_X4 hown hK hP 0 rfl rfl 0 (by decide) (hts (.fieldLink RX4 9 "CakeMarks$Row" "at" "[I") (List.mem_of_getElem? (i := 2) rfl)) (fun _ h9 => h9) rfl dX4_placeOf_11 ?_
        refine lv_iload_n hx hb dX4_placeOf_14 rfl (lv_at hl 2 rfl) ?_
        obtain ⟨h_2, hw⟩ := hw
        refine va_iald hx hb hK hP 1 0 rfl rfl h_2 dX4_placeOf_15 ?_
        refine lv_iload_n hx hb dX4_placeOf_16 rfl (lv_at hl 1 rfl) ?_
        refine lv_icmp_ne (tgt := 22) hx hb dX4_placeOf_17 (by decide) (fun c_3 => ?_) (fun c_3 => ?_)
        · have hw := hw.1 c_3
          refine lv_iinc (v := (x2 + (1 : Int32))) (lv' := [(2, .int (x2 + (1 : Int32))), (0, .ref ro), (1, .int a1)]) hx hb dX4_placeOf_22 hl (k := 2) rfl (by first | rfl | decide) (by decide) rfl (fun ls hl => ?_)
          refine lv_goto (tgt := 2) hx hb dX4_placeOf_25 (by decide) ?_
          exact hJ2 (x2 + (1 : Int32)) hw ls _ _ (lv_sub hl [1, 2, 0] rfl) hP hD hS
        · have hw := hw.2 c_3
          refine lv_iload_n hx hb dX4_placeOf_20 rfl (lv_at hl 2 rfl) ?_
          exact hret 21 x2 () _ _ _ (fun h => absurd h (by decide)) hw hP hD hS dX4_placeOf_21
  have hJ2 : ∀ (x2 : Int32), Wp_X4_placeOf_2 rT rs a1 Z x2 → ∀ (ls : Array Slot) (H : Heap) (locs : List Loc), lv_has ls 3 [(0, .ref ro), (1, .int a1), (2, .int x2)] → va_P (dC, dI) vwCl (kRow kI ro ra rT rs rg) H → va_D A (kRow kI ro ra rT rs rg) → va_S A s.heap H locs → W p l e ({ frames := 0, cells := 0, slots := 0, locals := 0 }) s m args below meth c H locs 0 0 Q (F0 m 2 ls []) := fun x2 hv => hv (fun x2 => ∀ (ls : Array Slot) (H : Heap) (locs : List Loc), lv_has ls 3 [(0, .ref ro), (1, .int a1), (2, .int x2)] → va_P (dC, dI) vwCl (kRow kI ro ra rT rs rg) H → va_D A (kRow kI ro ra rT rs rg) → va_S A s.heap H locs → W p l e ({ frames := 0, cells := 0, slots := 0, locals := 0 }) s m args below meth c H locs 0 0 Q (F0 m 2 ls [])) (fun J2 q2 => (key J2 q2))
  unfold Wp_X4_placeOf at hw
  refine lv_iconst (v := (0 : Int32)) hx hb dX4_placeOf_0 (by decide) ?_
  refine lv_istore_n (lv' := [(2, .int (0 : Int32)), (0, .ref ro), (1, .int a1)]) hx hb dX4_placeOf_1 rfl hl (by decide) rfl (fun ls hl => ?_)
  exact hJ2 (0 : Int32) hw ls _ _ (lv_sub hl [1, 2, 0] rfl) hP hD hS
-- CakeMarks$Row.firstFree(II)I
def B_X4_firstFree_5 (rT : Nat → Int32) (rg : Int32) (a1 : Int32) (a2 : Int32) (Z : Int32 → Prop) (J5 : Int32 → Int32 → Prop) (J32 : Int32 → Int32 → Prop) (x3 : Int32) (x4 : Int32) : Prop := ((a1 ≤ x4 → (J32 x3 a2)) ∧ (¬ a1 ≤ x4 → (vp_in x4 4 ∧ (J5 (x3 ||| ((1 : Int32) <<< ((rT x4.toNatClampNeg) &&& 31))) (x4 + (1 : Int32))))))
def B_X4_firstFree_32 (rT : Nat → Int32) (rg : Int32) (a1 : Int32) (a2 : Int32) (Z : Int32 → Prop) (J5 : Int32 → Int32 → Prop) (J32 : Int32 → Int32 → Prop) (x3 : Int32) (x4 : Int32) : Prop := ((rg ≤ x4 → (Z rg)) ∧ (¬ rg ≤ x4 → ((¬ ((x3 >>> (x4 &&& 31)) &&& (1 : Int32)) = (0 : Int32) → (J32 x3 (x4 + (1 : Int32)))) ∧ (((x3 >>> (x4 &&& 31)) &&& (1 : Int32)) = (0 : Int32) → (Z x4)))))
def Wp_X4_firstFree_5 (rT : Nat → Int32) (rg : Int32) (a1 : Int32) (a2 : Int32) (Z : Int32 → Prop) (x3 : Int32) (x4 : Int32) : Prop := ∀ (I5 : Int32 → Int32 → Prop) (I32 : Int32 → Int32 → Prop), (∀ (J5 : Int32 → Int32 → Prop) (J32 : Int32 → Int32 → Prop), (∀ (x3 : Int32) (x4 : Int32), J5 x3 x4 → I5 x3 x4) → (∀ (x3 : Int32) (x4 : Int32), J32 x3 x4 → I32 x3 x4) → ∀ (x3 : Int32) (x4 : Int32), B_X4_firstFree_5 rT rg a1 a2 Z J5 J32 x3 x4 → I5 x3 x4) → (∀ (J5 : Int32 → Int32 → Prop) (J32 : Int32 → Int32 → Prop), (∀ (x3 : Int32) (x4 : Int32), J5 x3 x4 → I5 x3 x4) → (∀ (x3 : Int32) (x4 : Int32), J32 x3 x4 → I32 x3 x4) → ∀ (x3 : Int32) (x4 : Int32), B_X4_firstFree_32 rT rg a1 a2 Z J5 J32 x3 x4 → I32 x3 x4) → I5 x3 x4
def Wp_X4_firstFree_32 (rT : Nat → Int32) (rg : Int32) (a1 : Int32) (a2 : Int32) (Z : Int32 → Prop) (x3 : Int32) (x4 : Int32) : Prop := ∀ (I5 : Int32 → Int32 → Prop) (I32 : Int32 → Int32 → Prop), (∀ (J5 : Int32 → Int32 → Prop) (J32 : Int32 → Int32 → Prop), (∀ (x3 : Int32) (x4 : Int32), J5 x3 x4 → I5 x3 x4) → (∀ (x3 : Int32) (x4 : Int32), J32 x3 x4 → I32 x3 x4) → ∀ (x3 : Int32) (x4 : Int32), B_X4_firstFree_5 rT rg a1 a2 Z J5 J32 x3 x4 → I5 x3 x4) → (∀ (J5 : Int32 → Int32 → Prop) (J32 : Int32 → Int32 → Prop), (∀ (x3 : Int32) (x4 : Int32), J5 x3 x4 → I5 x3 x4) → (∀ (x3 : Int32) (x4 : Int32), J32 x3 x4 → I32 x3 x4) → ∀ (x3 : Int32) (x4 : Int32), B_X4_firstFree_32 rT rg a1 a2 Z J5 J32 x3 x4 → I32 x3 x4) → I32 x3 x4
theorem F_X4_firstFree_5 (rT : Nat → Int32) (rg : Int32) (a1 : Int32) (a2 : Int32) (Z : Int32 → Prop) (x3 : Int32) (x4 : Int32) (h : B_X4_firstFree_5 rT rg a1 a2 Z (Wp_X4_firstFree_5 rT rg a1 a2 Z) (Wp_X4_firstFree_32 rT rg a1 a2 Z) x3 x4) : Wp_X4_firstFree_5 rT rg a1 a2 Z x3 x4 := fun I5 I32 h5 h32 => h5 _ _ (fun x3 x4 hx => hx I5 I32 h5 h32) (fun x3 x4 hx => hx I5 I32 h5 h32) x3 x4 h
theorem F_X4_firstFree_32 (rT : Nat → Int32) (rg : Int32) (a1 : Int32) (a2 : Int32) (Z : Int32 → Prop) (x3 : Int32) (x4 : Int32) (h : B_X4_firstFree_32 rT rg a1 a2 Z (Wp_X4_firstFree_5 rT rg a1 a2 Z) (Wp_X4_firstFree_32 rT rg a1 a2 Z) x3 x4) : Wp_X4_firstFree_32 rT rg a1 a2 Z x3 x4 := fun I5 I32 h5 h32 => h32 _ _ (fun x3 x4 hx => hx I5 I32 h5 h32) (fun x3 x4 hx => hx I5 I32 h5 h32) x3 x4 h
def Wp_X4_firstFree (rT : Nat → Int32) (rg : Int32) (a1 : Int32) (a2 : Int32) (Z : Int32 → Prop) : Prop := ((Wp_X4_firstFree_5 rT rg a1 a2 Z) (0 : Int32) (0 : Int32))
theorem in_X4_firstFree_X4 : ∀ w ∈ u_ws RX4 TX4 3, w ∈ wsX4_firstFree := fun w h => List.mem_cons_of_mem _ (List.mem_append_right _ h)
set_option maxHeartbeats 20000000 in
set_option maxRecDepth 100000 in
theorem c_X4_firstFree (l : Launch) (dC : Nat → ClassId) (dI : Nat → Nat → Nat) (kI kA kC : ClassId) (ro : Nat) (ra : Nat) (sz : Nat) (rT : Nat → Int32) (rs : Int32) (rg : Int32) (a1 : Int32) (a2 : Int32) (Z : Int32 → Prop) (hw : Wp_X4_firstFree rT rg a1 a2 Z) : zI l yX4_firstFree wsX4_firstFree ({ frames := 0, cells := 0, slots := 0, locals := 0 }) dC dI kI kA kC sz 0 0 [.ref ro, .int a1, .int a2] (kRow kI ro ra rT rs rg) (fun (r : Int32) (u : Unit) => Z r ) (fun (u : Unit) => (kRow kI ro ra rT rs rg)) := by
  refine zI.of (cc := cX4_firstFree) (maxL := 5) (ty := .int) (by decide) rfl (Nat.le_of_ble_eq_true rfl) (Or.inl rfl) ?_
  intro p e s m args below meth c A Q C0 hret ls hl
  obtain ⟨hx, hb, hr, hml, hts, hown, hin, hP, hK, hD, hA, hS⟩ := C0
  have hown : s.vm.findClass RX4 = some m.cls := hown
  have hl : lv_has ls 5 [(0, .ref ro), (1, .int a1), (2, .int a2)] := hl
  have key : ∀ (J5 : Int32 → Int32 → Prop) (J32 : Int32 → Int32 → Prop) (hJ5 : ∀ (x3 : Int32) (x4 : Int32), J5 x3 x4 → ∀ (ls : Array Slot) (H : Heap) (locs : List Loc), lv_has ls 5 [(0, .ref ro), (1, .int a1), (2, .int a2), (3, .int x3), (4, .int x4)] → va_P (dC, dI) vwCl (kRow kI ro ra rT rs rg) H → va_D A (kRow kI ro ra rT rs rg) → va_S A s.heap H locs → W p l e ({ frames := 0, cells := 0, slots := 0, locals := 0 }) s m args below meth c H locs 0 0 Q (F0 m 5 ls [])) (hJ32 : ∀ (x3 : Int32) (x4 : Int32), J32 x3 x4 → ∀ (ls : Array Slot) (H : Heap) (locs : List Loc), lv_has ls 5 [(0, .ref ro), (3, .int x3), (4, .int x4)] → va_P (dC, dI) vwCl (kRow kI ro ra rT rs rg) H → va_D A (kRow kI ro ra rT rs rg) → va_S A s.heap H locs → W p l e ({ frames := 0, cells := 0, slots := 0, locals := 0 }) s m args below meth c H locs 0 0 Q (F0 m 32 ls [])), (∀ (x3 : Int32) (x4 : Int32), B_X4_firstFree_5 rT rg a1 a2 Z J5 J32 x3 x4 → ∀ (ls : Array Slot) (H : Heap) (locs : List Loc), lv_has ls 5 [(0, .ref ro), (1, .int a1), (2, .int a2), (3, .int x3), (4, .int x4)] → va_P (dC, dI) vwCl (kRow kI ro ra rT rs rg) H → va_D A (kRow kI ro ra rT rs rg) → va_S A s.heap H locs → W p l e ({ frames := 0, cells := 0, slots := 0, locals := 0 }) s m args below meth c H locs 0 0 Q (F0 m 5 ls [])) ∧ (∀ (x3 : Int32) (x4 : Int32), B_X4_firstFree_32 rT rg a1 a2 Z J5 J32 x3 x4 → ∀ (ls : Array Slot) (H : Heap) (locs : List Loc), lv_has ls 5 [(0, .ref ro), (3, .int x3), (4, .int x4)] → va_P (dC, dI) vwCl (kRow kI ro ra rT rs rg) H → va_D A (kRow kI ro ra rT rs rg) → va_S A s.heap H locs → W p l e ({ frames := 0, cells := 0, slots := 0, locals := 0 }) s m args below meth c H locs 0 0 Q (F0 m 32 ls [])) := by
    intro J5 J32 hJ5 hJ32
    refine ⟨?_, ?_⟩
    · intro x3 x4 hw ls H locs hl hP hD hS
      unfold B_X4_firstFree_5 at hw
      refine lv_iload hx hb dX4_firstFree_5 (lv_at hl 4 rfl) ?_
      refine lv_iload_n hx hb dX4_firstFree_7 rfl (lv_at hl 1 rfl) ?_
      refine lv_icmp_ge (tgt := 29) hx hb dX4_firstFree_8 (by decide) (fun c_1 => ?_) (fun c_1 => ?_)
      · have hw := hw.1 c_1
        refine lv_iload_n hx hb dX4_firstFree_29 rfl (lv_at hl 2 rfl) ?_
        refine lv_istore (lv' := [(4, .int a2), (0, .ref ro), (1, .int a1), (2, .int a2), (3, .int x3)]) hx hb dX4_firstFree_30 hl (by decide) rfl (fun ls hl => ?_)
        exact hJ32 x3 a2 hw ls _ _ (lv_sub hl [1, 4, 0] rfl) hP hD hS
      · have hw := hw.2 c_1
        refine lv_iload_n hx hb dX4_firstFree_11 rfl (lv_at hl 3 rfl) ?_
        refine lv_iconst (v := (1 : Int32)) hx hb dX4_firstFree_12 (by decide) ?_
        refine lv_aload_n hx hb dX4_firstFree_13 rfl (lv_at hl 0 rfl) ?_
        refine va_get (D := (dC, dI)) (ci := 4) (v := .ref ra) (C := RX4) (T := TX4) (N := 3) hx hb hts in_X4_firstFree_X4 hown hK hP 0 rfl rfl 0 (by decide) (hts (.fieldLink RX4 9 "CakeMarks$Row" "at" "[I") (List.mem_of_getElem? (i := 1) rfl)) (fun _ h9 => h9) rfl dX4_firstFree_14 ?_
        refine lv_iload hx hb dX4_firstFree_17 (lv_at hl 4 rfl) ?_
        obtain ⟨h_2, hw⟩ := hw
        refine va_iald hx hb hK hP 1 0 rfl rfl h_2 dX4_firstFree_19 ?_
        refine lv_ishl hx hb dX4_firstFree_20 ?_
        refine lv_ior hx hb dX4_firstFree_21 ?_
        refine lv_istore_n (lv' := [(3, .int (x3 ||| ((1 : Int32) <<< ((rT x4.toNatClampNeg) &&& 31)))), (0, .ref ro), (1, .int a1), (2, .int a2), (4, .int x4)]) hx hb dX4_firstFree_22 rfl hl (by decide) rfl (fun ls hl => ?_)
        refine lv_iinc (v := (x4 + (1 : Int32))) (lv' := [(4, .int (x4 + (1 : Int32))), (3, .int (x3 ||| ((1 : Int32) <<< ((rT x4.toNatClampNeg) &&& 31)))), (0, .ref ro), (1, .int a1), (2, .int a2)]) hx hb dX4_firstFree_23 hl (k := 4) rfl (by first | rfl | decide) (by decide) rfl (fun ls hl => ?_)
        refine lv_goto (tgt := 5) hx hb dX4_firstFree_26 (by decide) ?_
        exact hJ5 (x3 ||| ((1 : Int32) <<< ((rT x4.toNatClampNeg) &&& 31))) (x4 + (1 : Int32)) hw ls _ _ (lv_sub hl [2, 3, 4, 1, 0] rfl) hP hD hS
    · intro x3 x4 hw ls H locs hl hP hD hS
      unfold B_X4_firstFree_32 at hw
      refine lv_iload hx hb dX4_firstFree_32 (lv_at hl 2 rfl) ?_
      refine lv_aload_n hx hb dX4_firstFree_34 rfl (lv_at hl 0 rfl) ?_
      refine va_get (D := (dC, dI)) (ci := 4) (v := .int rg) (C := RX4) (T := TX4) (N := 3) hx hb hts in_X4_firstFree_X4 hown hK hP 0 rfl rfl 2 (by decide) (hts (.fieldLink RX4 19 "CakeMarks$Row" "guests" "I") (List.mem_of_getElem? (i := 2) rfl)) (fun _ h9 => h9) rfl dX4_firstFree_35 ?_
      refine lv_icmp_ge (tgt := 59) hx hb dX4_firstFree_38 (by decide) (fun c_3 => ?_) (fun c_3 => ?_)
      · have hw := hw.1 c_3
        refine lv_aload_n hx hb dX4_firstFree_59 rfl (lv_at hl 0 rfl) ?_
        refine va_get (D := (dC, dI)) (ci := 4) (v := .int rg) (C := RX4) (T := TX4) (N := 3) hx hb hts in_X4_firstFree_X4 hown hK hP 0 rfl rfl 2 (by decide) (hts (.fieldLink RX4 19 "CakeMarks$Row" "guests" "I") (List.mem_of_getElem? (i := 2) rfl)) (fun _ h9 => h9) rfl dX4_firstFree_60 ?_
        exact hret 63 rg () _ _ _ (fun h => absurd h (by decide)) hw hP hD hS dX4_firstFree_63
      · have hw := hw.2 c_3
        refine lv_iload_n hx hb dX4_firstFree_41 rfl (lv_at hl 1 rfl) ?_
        refine lv_iload hx hb dX4_firstFree_42 (lv_at hl 2 rfl) ?_
        refine lv_ishr hx hb dX4_firstFree_44 ?_
        refine lv_iconst (v := (1 : Int32)) hx hb dX4_firstFree_45 (by decide) ?_
        refine lv_iand hx hb dX4_firstFree_46 ?_
        refine lv_if_ne (tgt := 53) hx hb dX4_firstFree_47 (by decide) (fun c_4 => ?_) (fun c_4 => ?_)
        · have hw := hw.1 c_4
          refine lv_iinc (v := (x4 + (1 : Int32))) (lv' := [(4, .int (x4 + (1 : Int32))), (0, .ref ro), (3, .int x3)]) hx hb dX4_firstFree_53 hl (k := 2) rfl (by first | rfl | decide) (by decide) rfl (fun ls hl => ?_)
          refine lv_goto (tgt := 32) hx hb dX4_firstFree_56 (by decide) ?_
          exact hJ32 x3 (x4 + (1 : Int32)) hw ls _ _ (lv_sub hl [1, 2, 0] rfl) hP hD hS
        · have hw := hw.2 c_4
          refine lv_iload hx hb dX4_firstFree_50 (lv_at hl 2 rfl) ?_
          exact hret 52 x4 () _ _ _ (fun h => absurd h (by decide)) hw hP hD hS dX4_firstFree_52
  have hJ5 : ∀ (x3 : Int32) (x4 : Int32), Wp_X4_firstFree_5 rT rg a1 a2 Z x3 x4 → ∀ (ls : Array Slot) (H : Heap) (locs : List Loc), lv_has ls 5 [(0, .ref ro), (1, .int a1), (2, .int a2), (3, .int x3), (4, .int x4)] → va_P (dC, dI) vwCl (kRow kI ro ra rT rs rg) H → va_D A (kRow kI ro ra rT rs rg) → va_S A s.heap H locs → W p l e ({ frames := 0, cells := 0, slots := 0, locals := 0 }) s m args below meth c H locs 0 0 Q (F0 m 5 ls []) := fun x3 x4 hv => hv (fun x3 x4 => ∀ (ls : Array Slot) (H : Heap) (locs : List Loc), lv_has ls 5 [(0, .ref ro), (1, .int a1), (2, .int a2), (3, .int x3), (4, .int x4)] → va_P (dC, dI) vwCl (kRow kI ro ra rT rs rg) H → va_D A (kRow kI ro ra rT rs rg) → va_S A s.heap H locs → W p l e ({ frames := 0, cells := 0, slots := 0, locals := 0 }) s m args below meth c H locs 0 0 Q (F0 m 5 ls [])) (fun x3 x4 => ∀ (ls : Array Slot) (H : Heap) (locs : List Loc), lv_has ls 5 [(0, .ref ro), (3, .int x3), (4, .int x4)] → va_P (dC, dI) vwCl (kRow kI ro ra rT rs rg) H → va_D A (kRow kI ro ra rT rs rg) → va_S A s.heap H locs → W p l e ({ frames := 0, cells := 0, slots := 0, locals := 0 }) s m args below meth c H locs 0 0 Q (F0 m 32 ls [])) (fun J5 J32 q5 q32 => (key J5 J32 q5 q32).1) (fun J5 J32 q5 q32 => (key J5 J32 q5 q32).2)
  have hJ32 : ∀ (x3 : Int32) (x4 : Int32), Wp_X4_firstFree_32 rT rg a1 a2 Z x3 x4 → ∀ (ls : Array Slot) (H : Heap) (locs : List Loc), lv_has ls 5 [(0, .ref ro), (3, .int x3), (4, .int x4)] → va_P (dC, dI) vwCl (kRow kI ro ra rT rs rg) H → va_D A (kRow kI ro ra rT rs rg) → va_S A s.heap H locs → W p l e ({ frames := 0, cells := 0, slots := 0, locals := 0 }) s m args below meth c H locs 0 0 Q (F0 m 32 ls []) := fun x3 x4 hv => hv (fun x3 x4 => ∀ (ls : Array Slot) (H : Heap) (locs : List Loc), lv_has ls 5 [(0, .ref ro), (1, .int a1), (2, .int a2), (3, .int x3), (4, .int x4)] → va_P (dC, dI) vwCl (kRow kI ro ra rT rs rg) H → va_D A (kRow kI ro ra rT rs rg) → va_S A s.heap H locs → W p l e ({ frames := 0, cells := 0, slots := 0, locals := 0 }) s m args below meth c H locs 0 0 Q (F0 m 5 ls [])) (fun x3 x4 => ∀ (ls : Array Slot) (H : Heap) (locs : List Loc), lv_has ls 5 [(0, .ref ro), (3, .int x3), (4, .int x4)] → va_P (dC, dI) vwCl (kRow kI ro ra rT rs rg) H → va_D A (kRow kI ro ra rT rs rg) → va_S A s.heap H locs → W p l e ({ frames := 0, cells := 0, slots := 0, locals := 0 }) s m args below meth c H locs 0 0 Q (F0 m 32 ls [])) (fun J5 J32 q5 q32 => (key J5 J32 q5 q32).1) (fun J5 J32 q5 q32 => (key J5 J32 q5 q32).2)
  unfold Wp_X4_firstFree at hw
  refine lv_iconst (v := (0 : Int32)) hx hb dX4_firstFree_0 (by decide) ?_
  refine lv_istore_n (lv' := [(3, .int (0 : Int32)), (0, .ref ro), (1, .int a1), (2, .int a2)]) hx hb dX4_firstFree_1 rfl hl (by decide) rfl (fun ls hl => ?_)
  refine lv_iconst (v := (0 : Int32)) hx hb dX4_firstFree_2 (by decide) ?_
  refine lv_istore (lv' := [(4, .int (0 : Int32)), (3, .int (0 : Int32)), (0, .ref ro), (1, .int a1), (2, .int a2)]) hx hb dX4_firstFree_3 hl (by decide) rfl (fun ls hl => ?_)
  exact hJ5 (0 : Int32) (0 : Int32) hw ls _ _ (lv_sub hl [2, 3, 4, 1, 0] rfl) hP hD hS
-- CakeMarks$Row.fill(I)V
def B_X4_fill_2 (rs : Int32) (rg : Int32) (a1 : Int32) (Z : (Nat → Int32) → Prop) (J2 : Int32 → (Nat → Int32) → Prop) (x2 : Int32) (rT : Nat → Int32) : Prop := ((rs ≤ x2 → (Z rT)) ∧ (¬ rs ≤ x2 → (Wp_X4_firstFree rT rg x2 (0 : Int32) (fun r_2 => (vp_in x2 4 ∧ (J2 (x2 + (1 : Int32)) (upd rT x2.toNatClampNeg r_2)))))))
def Wp_X4_fill_2 (rs : Int32) (rg : Int32) (a1 : Int32) (Z : (Nat → Int32) → Prop) (x2 : Int32) (rT : Nat → Int32) : Prop := ∀ (I2 : Int32 → (Nat → Int32) → Prop), (∀ (J2 : Int32 → (Nat → Int32) → Prop), (∀ (x2 : Int32) (rT : Nat → Int32), J2 x2 rT → I2 x2 rT) → ∀ (x2 : Int32) (rT : Nat → Int32), B_X4_fill_2 rs rg a1 Z J2 x2 rT → I2 x2 rT) → I2 x2 rT
theorem F_X4_fill_2 (rs : Int32) (rg : Int32) (a1 : Int32) (Z : (Nat → Int32) → Prop) (x2 : Int32) (rT : Nat → Int32) (h : B_X4_fill_2 rs rg a1 Z (Wp_X4_fill_2 rs rg a1 Z) x2 rT) : Wp_X4_fill_2 rs rg a1 Z x2 rT := fun I2 h2 => h2 _ (fun x2 rT hx => hx I2 h2) x2 rT h
def Wp_X4_fill (rT : Nat → Int32) (rs : Int32) (rg : Int32) (a1 : Int32) (Z : (Nat → Int32) → Prop) : Prop := ((Wp_X4_fill_2 rs rg a1 Z) a1 rT)
theorem in_X4_fill_X4 : ∀ w ∈ u_ws RX4 TX4 3, w ∈ wsX4_fill := fun w h => List.mem_cons_of_mem _ (List.mem_append_right _ h)
set_option maxHeartbeats 20000000 in
set_option maxRecDepth 100000 in
theorem c_X4_fill (l : Launch) (dC : Nat → ClassId) (dI : Nat → Nat → Nat) (kI kA kC : ClassId) (ro : Nat) (ra : Nat) (sz : Nat) (rT : Nat → Int32) (rs : Int32) (rg : Int32) (a1 : Int32) (Z : (Nat → Int32) → Prop) (hw : Wp_X4_fill rT rs rg a1 Z) : zV l yX4_fill wsX4_fill ({ frames := 1, cells := 0, slots := 0, locals := 24 }) dC dI kI kA kC sz 0 0 [.ref ro, .int a1] (kRow kI ro ra rT rs rg) (fun (u : (Nat → Int32)) => Z u) (fun (u : (Nat → Int32)) => (kRow kI ro ra u rs rg)) := by
  refine zV.of (cc := cX4_fill) (maxL := 3) (by decide) rfl (Nat.le_of_ble_eq_true rfl) ?_
  intro p e s m args below meth c A Q C0 hret ls hl
  obtain ⟨hx, hb, hr, hml, hts, hown, hin, hP, hK, hD, hA, hS⟩ := C0
  have hown : s.vm.findClass RX4 = some m.cls := hown
  have hl : lv_has ls 3 [(0, .ref ro), (1, .int a1)] := hl
  have key : ∀ (J2 : Int32 → (Nat → Int32) → Prop) (hJ2 : ∀ (x2 : Int32) (rT : Nat → Int32), J2 x2 rT → ∀ (ls : Array Slot) (H : Heap) (locs : List Loc), lv_has ls 3 [(0, .ref ro), (2, .int x2)] → va_P (dC, dI) vwCl (kRow kI ro ra rT rs rg) H → va_D A (kRow kI ro ra rT rs rg) → va_S A s.heap H locs → W p l e ({ frames := 1, cells := 0, slots := 0, locals := 24 }) s m args below meth c H locs 0 0 Q (F0 m 2 ls [])), (∀ (x2 : Int32) (rT : Nat → Int32), B_X4_fill_2 rs rg a1 Z J2 x2 rT → ∀ (ls : Array Slot) (H : Heap) (locs : List Loc), lv_has ls 3 [(0, .ref ro), (2, .int x2)] → va_P (dC, dI) vwCl (kRow kI ro ra rT rs rg) H → va_D A (kRow kI ro ra rT rs rg) → va_S A s.heap H locs → W p l e ({ frames := 1, cells := 0, slots := 0, locals := 24 }) s m args below meth c H locs 0 0 Q (F0 m 2 ls [])) := by
    intro J2 hJ2
    · intro x2 rT hw ls H locs hl hP hD hS
      unfold B_X4_fill_2 at hw
      refine lv_iload_n hx hb dX4_fill_2 rfl (lv_at hl 1 rfl) ?_
      refine lv_aload_n hx hb dX4_fill_3 rfl (lv_at hl 0 rfl) ?_
      refine va_get (D := (dC, dI)) (ci := 4) (v := .int rs) (C := RX4) (T := TX4) (N := 3) hx hb hts in_X4_fill_X4 hown hK hP 0 rfl rfl 1 (by decide) (hts (.fieldLink RX4 15 "CakeMarks$Row" "size" "I") (List.mem_of_getElem? (i := 1) rfl)) (fun _ h9 => h9) rfl dX4_fill_4 ?_
      refine lv_icmp_ge (tgt := 28) hx hb dX4_fill_7 (by decide) (fun c_1 => ?_) (fun c_1 => ?_)
      · have hw := hw.1 c_1
        exact hret 28 rT _ _ _ hw hP hD hS dX4_fill_28
      · have hw := hw.2 c_1
        refine lv_aload_n hx hb dX4_fill_10 rfl (lv_at hl 0 rfl) ?_
        refine va_get (D := (dC, dI)) (ci := 4) (v := .ref ra) (C := RX4) (T := TX4) (N := 3) hx hb hts in_X4_fill_X4 hown hK hP 0 rfl rfl 0 (by decide) (hts (.fieldLink RX4 9 "CakeMarks$Row" "at" "[I") (List.mem_of_getElem? (i := 2) rfl)) (fun _ h9 => h9) rfl dX4_fill_11 ?_
        refine lv_iload_n hx hb dX4_fill_14 rfl (lv_at hl 1 rfl) ?_
        refine lv_aload_n hx hb dX4_fill_15 rfl (lv_at hl 0 rfl) ?_
        refine lv_iload_n hx hb dX4_fill_16 rfl (lv_at hl 1 rfl) ?_
        refine lv_iconst (v := (0 : Int32)) hx hb dX4_fill_17 (by decide) ?_
        refine zcallI (ci := 4) (q0 := 0) (As := [.int x2, .int (0 : Int32)]) (rest := [.int x2, .ref ra]) (wr := ([] : va_W)) (Wn := fun u => (kRow kI ro ra rT rs rg)) ⟨hx, hb, hml, hown, hts⟩ (c_X4_firstFree l dC dI kI kA kC ro ra _ rT rs rg x2 (0 : Int32) _ hw) (cwV 2 hts gX4_fill_X4_firstFree rfl rfl rfl (by decide +kernel) ⟨Nat.le_of_ble_eq_true rfl, Nat.le_of_ble_eq_true rfl⟩) hK hP hD hS hA [0, 1] [] [0, 1] rfl rfl (by decide) (by decide) (by decide) (fun u => rfl) (by decide) rfl rfl rfl rfl hl.1 rfl (Nat.le_of_ble_eq_true rfl) dX4_fill_18 ⟨Nat.zero_le _, Nat.zero_le _⟩ (fun r_2 u H locs hw hP hD hS => ?_)
        have hP : va_P (dC, dI) vwCl (kRow kI ro ra rT rs rg) H := hP
        have hD : va_D A (kRow kI ro ra rT rs rg) := hD
        obtain ⟨h_3, hw⟩ := hw
        refine va_iast hx hb hK hP hD hS 1 0 rfl rfl h_3 dX4_fill_21 (fun H locs hP hD hS => ?_)
        have hP : va_P (dC, dI) vwCl (kRow kI ro ra (upd rT x2.toNatClampNeg r_2) rs rg) H := hP
        have hD : va_D A (kRow kI ro ra (upd rT x2.toNatClampNeg r_2) rs rg) := hD
        refine lv_iinc (v := (x2 + (1 : Int32))) (lv' := [(2, .int (x2 + (1 : Int32))), (0, .ref ro)]) hx hb dX4_fill_22 hl (k := 1) rfl (by first | rfl | decide) (by decide) rfl (fun ls hl => ?_)
        refine lv_goto (tgt := 2) hx hb dX4_fill_25 (by decide) ?_
        exact hJ2 (x2 + (1 : Int32)) (upd rT x2.toNatClampNeg r_2) hw ls _ _ (lv_sub hl [1, 0] rfl) hP hD hS
  have hJ2 : ∀ (x2 : Int32) (rT : Nat → Int32), Wp_X4_fill_2 rs rg a1 Z x2 rT → ∀ (ls : Array Slot) (H : Heap) (locs : List Loc), lv_has ls 3 [(0, .ref ro), (2, .int x2)] → va_P (dC, dI) vwCl (kRow kI ro ra rT rs rg) H → va_D A (kRow kI ro ra rT rs rg) → va_S A s.heap H locs → W p l e ({ frames := 1, cells := 0, slots := 0, locals := 24 }) s m args below meth c H locs 0 0 Q (F0 m 2 ls []) := fun x2 rT hv => hv (fun x2 rT => ∀ (ls : Array Slot) (H : Heap) (locs : List Loc), lv_has ls 3 [(0, .ref ro), (2, .int x2)] → va_P (dC, dI) vwCl (kRow kI ro ra rT rs rg) H → va_D A (kRow kI ro ra rT rs rg) → va_S A s.heap H locs → W p l e ({ frames := 1, cells := 0, slots := 0, locals := 24 }) s m args below meth c H locs 0 0 Q (F0 m 2 ls [])) (fun J2 q2 => (key J2 q2))
  unfold Wp_X4_fill at hw
  refine lv_iload_n hx hb dX4_fill_0 rfl (lv_at hl 1 rfl) ?_
  refine lv_istore_n (lv' := [(2, .int a1), (0, .ref ro), (1, .int a1)]) hx hb dX4_fill_1 rfl hl (by decide) rfl (fun ls hl => ?_)
  exact hJ2 a1 rT hw ls _ _ (lv_sub hl [1, 0] rfl) hP hD hS
-- CakeMarks$Row.begin(II)V
def Wp_X4_begin (rT : Nat → Int32) (rs : Int32) (rg : Int32) (a1 : Int32) (a2 : Int32) (Z : (Nat → Int32) → Int32 → Int32 → Prop) : Prop := (Wp_X4_fill rT (if (4 : Int32) < a1 then (4 : Int32) else a1) a2 (0 : Int32) (fun rT_1 => (Z rT_1 (if (4 : Int32) < a1 then (4 : Int32) else a1) a2)))
theorem in_X4_begin_X4 : ∀ w ∈ u_ws RX4 TX4 3, w ∈ wsX4_begin := fun w h => List.mem_cons_of_mem _ (List.mem_append_right _ h)
set_option maxHeartbeats 20000000 in
set_option maxRecDepth 100000 in
theorem c_X4_begin (l : Launch) (dC : Nat → ClassId) (dI : Nat → Nat → Nat) (kI kA kC : ClassId) (ro : Nat) (ra : Nat) (sz : Nat) (rT : Nat → Int32) (rs : Int32) (rg : Int32) (a1 : Int32) (a2 : Int32) (Z : (Nat → Int32) → Int32 → Int32 → Prop) (hw : Wp_X4_begin rT rs rg a1 a2 Z) : zV l yX4_begin wsX4_begin ({ frames := 2, cells := 0, slots := 0, locals := 46 }) dC dI kI kA kC sz 0 0 [.ref ro, .int a1, .int a2] (kRow kI ro ra rT rs rg) (fun (u : (Nat → Int32) × Int32 × Int32) => Z u.1 u.2.1 u.2.2) (fun (u : (Nat → Int32) × Int32 × Int32) => (kRow kI ro ra u.1 u.2.1 u.2.2)) := by
  refine zV.of (cc := cX4_begin) (maxL := 3) (by decide) rfl (Nat.le_of_ble_eq_true rfl) ?_
  intro p e s m args below meth c A Q C0 hret ls hl
  obtain ⟨hx, hb, hr, hml, hts, hown, hin, hP, hK, hD, hA, hS⟩ := C0
  have hown : s.vm.findClass RX4 = some m.cls := hown
  have hl : lv_has ls 3 [(0, .ref ro), (1, .int a1), (2, .int a2)] := hl
  unfold Wp_X4_begin at hw
  refine lv_aload_n hx hb dX4_begin_0 rfl (lv_at hl 0 rfl) ?_
  refine lv_iload_n hx hb dX4_begin_1 rfl (lv_at hl 1 rfl) ?_
  refine lv_iconst (v := (4 : Int32)) hx hb dX4_begin_2 (by decide) ?_
  refine va_mmin hx hb (hml.trans hl.1.symm) hown (hts (.methodLink RX4 22 Lib.Math.min.name) (List.mem_of_getElem? (i := 1) rfl)) (hts (.static Lib.Math.min.name) (List.mem_of_getElem? (i := 2) rfl)) (hts (.initialized "java/lang/Math") (List.mem_of_getElem? (i := 3) rfl)) (hts (.code Lib.Math.min.name Lib.Math.min.code 2 (some .int)) (List.mem_of_getElem? (i := 4) rfl)) (Nat.le_of_ble_eq_true rfl) (Nat.le_of_ble_eq_true rfl) (Nat.zero_le _) (Nat.zero_le _) dX4_begin_3 ?_
  refine va_put (D := (dC, dI)) (ci := 4) (v := .int (if (4 : Int32) < a1 then (4 : Int32) else a1)) (ty := .int) (C := RX4) (T := TX4) (N := 3) hx hb hts in_X4_begin_X4 tyX4 tyX4_ok nmX4 hown hK hP hD hS 0 rfl rfl 1 (by decide) (hts (.fieldLink RX4 15 "CakeMarks$Row" "size" "I") (List.mem_of_getElem? (i := 5) rfl)) (fun _ h9 => h9) rfl (by decide +kernel) rfl rfl (Nat.le_of_ble_eq_true rfl) dX4_begin_6 (fun H locs hP hD hS => ?_)
  have hP : va_P (dC, dI) vwCl (kRow kI ro ra rT (if (4 : Int32) < a1 then (4 : Int32) else a1) rg) H := hP
  have hD : va_D A (kRow kI ro ra rT (if (4 : Int32) < a1 then (4 : Int32) else a1) rg) := hD
  refine lv_aload_n hx hb dX4_begin_9 rfl (lv_at hl 0 rfl) ?_
  refine lv_iload_n hx hb dX4_begin_10 rfl (lv_at hl 2 rfl) ?_
  refine va_put (D := (dC, dI)) (ci := 4) (v := .int a2) (ty := .int) (C := RX4) (T := TX4) (N := 3) hx hb hts in_X4_begin_X4 tyX4 tyX4_ok nmX4 hown hK hP hD hS 0 rfl rfl 2 (by decide) (hts (.fieldLink RX4 19 "CakeMarks$Row" "guests" "I") (List.mem_of_getElem? (i := 6) rfl)) (fun _ h9 => h9) rfl (by decide +kernel) rfl rfl (Nat.le_of_ble_eq_true rfl) dX4_begin_11 (fun H locs hP hD hS => ?_)
  have hP : va_P (dC, dI) vwCl (kRow kI ro ra rT (if (4 : Int32) < a1 then (4 : Int32) else a1) a2) H := hP
  have hD : va_D A (kRow kI ro ra rT (if (4 : Int32) < a1 then (4 : Int32) else a1) a2) := hD
  refine lv_aload_n hx hb dX4_begin_14 rfl (lv_at hl 0 rfl) ?_
  refine lv_iconst (v := (0 : Int32)) hx hb dX4_begin_15 (by decide) ?_
  refine zcallV (ci := 4) (q0 := 0) (As := [.int (0 : Int32)]) (rest := []) (wr := ([] : va_W)) (Wn := fun u => (kRow kI ro ra u (if (4 : Int32) < a1 then (4 : Int32) else a1) a2)) ⟨hx, hb, hml, hown, hts⟩ (c_X4_fill l dC dI kI kA kC ro ra _ rT (if (4 : Int32) < a1 then (4 : Int32) else a1) a2 (0 : Int32) _ hw) (cwV 1 hts gX4_begin_X4_fill rfl rfl rfl (by decide +kernel) ⟨Nat.le_of_ble_eq_true rfl, Nat.le_of_ble_eq_true rfl⟩) hK hP hD hS hA [0, 1] [] [0, 1] rfl rfl (by decide) (by decide) (by decide) (fun u => rfl) (by decide) rfl rfl rfl rfl hl.1 rfl (Nat.le_of_ble_eq_true rfl) dX4_begin_16 ⟨Nat.zero_le _, Nat.zero_le _⟩ (fun rT_1 H locs hw hP hD hS => ?_)
  have hP : va_P (dC, dI) vwCl (kRow kI ro ra rT_1 (if (4 : Int32) < a1 then (4 : Int32) else a1) a2) H := hP
  have hD : va_D A (kRow kI ro ra rT_1 (if (4 : Int32) < a1 then (4 : Int32) else a1) a2) := hD
  exact hret 19 (rT_1, (if (4 : Int32) < a1 then (4 : Int32) else a1), a2) _ _ _ hw hP hD hS dX4_begin_19
-- CakeMarks$Row.advance(I)Z
def B_X4_advance_11 (rs : Int32) (rg : Int32) (a1 : Int32) (Z : Int32 → (Nat → Int32) → Prop) (J11 : Int32 → (Nat → Int32) → Prop) (x2 : Int32) (rT : Nat → Int32) : Prop := ((x2 < (0 : Int32) → (Z (0 : Int32) rT)) ∧ (¬ x2 < (0 : Int32) → (vp_in x2 4 ∧ (Wp_X4_firstFree rT rg x2 ((rT x2.toNatClampNeg) + (1 : Int32)) (fun r_3 => ((rg ≤ r_3 → (J11 (x2 + (-1 : Int32)) rT)) ∧ (¬ rg ≤ r_3 → (Wp_X4_fill (upd rT x2.toNatClampNeg r_3) rs rg (x2 + (1 : Int32)) (fun rT_5 => (Z (1 : Int32) rT_5))))))))))
def Wp_X4_advance_11 (rs : Int32) (rg : Int32) (a1 : Int32) (Z : Int32 → (Nat → Int32) → Prop) (x2 : Int32) (rT : Nat → Int32) : Prop := ∀ (I11 : Int32 → (Nat → Int32) → Prop), (∀ (J11 : Int32 → (Nat → Int32) → Prop), (∀ (x2 : Int32) (rT : Nat → Int32), J11 x2 rT → I11 x2 rT) → ∀ (x2 : Int32) (rT : Nat → Int32), B_X4_advance_11 rs rg a1 Z J11 x2 rT → I11 x2 rT) → I11 x2 rT
theorem F_X4_advance_11 (rs : Int32) (rg : Int32) (a1 : Int32) (Z : Int32 → (Nat → Int32) → Prop) (x2 : Int32) (rT : Nat → Int32) (h : B_X4_advance_11 rs rg a1 Z (Wp_X4_advance_11 rs rg a1 Z) x2 rT) : Wp_X4_advance_11 rs rg a1 Z x2 rT := fun I11 h11 => h11 _ (fun x2 rT hx => hx I11 h11) x2 rT h
def Wp_X4_advance (rT : Nat → Int32) (rs : Int32) (rg : Int32) (a1 : Int32) (Z : Int32 → (Nat → Int32) → Prop) : Prop := ((Wp_X4_advance_11 rs rg a1 Z) (if (rs - (1 : Int32)) < a1 then (rs - (1 : Int32)) else a1) rT)
theorem in_X4_advance_X4 : ∀ w ∈ u_ws RX4 TX4 3, w ∈ wsX4_advance := fun w h => List.mem_cons_of_mem _ (List.mem_append_right _ h)
set_option maxHeartbeats 20000000 in
set_option maxRecDepth 100000 in
theorem c_X4_advance (l : Launch) (dC : Nat → ClassId) (dI : Nat → Nat → Nat) (kI kA kC : ClassId) (ro : Nat) (ra : Nat) (sz : Nat) (rT : Nat → Int32) (rs : Int32) (rg : Int32) (a1 : Int32) (Z : Int32 → (Nat → Int32) → Prop) (hw : Wp_X4_advance rT rs rg a1 Z) : zI l yX4_advance wsX4_advance ({ frames := 2, cells := 0, slots := 0, locals := 46 }) dC dI kI kA kC sz 0 0 [.ref ro, .int a1] (kRow kI ro ra rT rs rg) (fun (r : Int32) (u : (Nat → Int32)) => Z r u) (fun (u : (Nat → Int32)) => (kRow kI ro ra u rs rg)) := by
  refine zI.of (cc := cX4_advance) (maxL := 4) (ty := .boolean) (by decide) rfl (Nat.le_of_ble_eq_true rfl) (Or.inr rfl) ?_
  intro p e s m args below meth c A Q C0 hret ls hl
  obtain ⟨hx, hb, hr, hml, hts, hown, hin, hP, hK, hD, hA, hS⟩ := C0
  have hown : s.vm.findClass RX4 = some m.cls := hown
  have hl : lv_has ls 4 [(0, .ref ro), (1, .int a1)] := hl
  have key : ∀ (J11 : Int32 → (Nat → Int32) → Prop) (hJ11 : ∀ (x2 : Int32) (rT : Nat → Int32), J11 x2 rT → ∀ (ls : Array Slot) (H : Heap) (locs : List Loc), lv_has ls 4 [(0, .ref ro), (2, .int x2)] → va_P (dC, dI) vwCl (kRow kI ro ra rT rs rg) H → va_D A (kRow kI ro ra rT rs rg) → va_S A s.heap H locs → W p l e ({ frames := 2, cells := 0, slots := 0, locals := 46 }) s m args below meth c H locs 0 0 Q (F0 m 11 ls [])), (∀ (x2 : Int32) (rT : Nat → Int32), B_X4_advance_11 rs rg a1 Z J11 x2 rT → ∀ (ls : Array Slot) (H : Heap) (locs : List Loc), lv_has ls 4 [(0, .ref ro), (2, .int x2)] → va_P (dC, dI) vwCl (kRow kI ro ra rT rs rg) H → va_D A (kRow kI ro ra rT rs rg) → va_S A s.heap H locs → W p l e ({ frames := 2, cells := 0, slots := 0, locals := 46 }) s m args below meth c H locs 0 0 Q (F0 m 11 ls [])) := by
    intro J11 hJ11
    · intro x2 rT hw ls H locs hl hP hD hS
      unfold B_X4_advance_11 at hw
      refine lv_iload_n hx hb dX4_advance_11 rfl (lv_at hl 1 rfl) ?_
      refine lv_if_lt (tgt := 59) hx hb dX4_advance_12 (by decide) (fun c_1 => ?_) (fun c_1 => ?_)
      · have hw := hw.1 c_1
        refine lv_iconst (v := (0 : Int32)) hx hb dX4_advance_59 (by decide) ?_
        exact hret 60 (0 : Int32) rT _ _ _ (fun _ => rfl) hw hP hD hS dX4_advance_60
      · have hw := hw.2 c_1
        refine lv_aload_n hx hb dX4_advance_15 rfl (lv_at hl 0 rfl) ?_
        refine lv_iload_n hx hb dX4_advance_16 rfl (lv_at hl 1 rfl) ?_
        refine lv_aload_n hx hb dX4_advance_17 rfl (lv_at hl 0 rfl) ?_
        refine va_get (D := (dC, dI)) (ci := 4) (v := .ref ra) (C := RX4) (T := TX4) (N := 3) hx hb hts in_X4_advance_X4 hown hK hP 0 rfl rfl 0 (by decide) (hts (.fieldLink RX4 9 "CakeMarks$Row" "at" "[I") (List.mem_of_getElem? (i := 6) rfl)) (fun _ h9 => h9) rfl dX4_advance_18 ?_
        refine lv_iload_n hx hb dX4_advance_21 rfl (lv_at hl 1 rfl) ?_
        obtain ⟨h_2, hw⟩ := hw
        refine va_iald hx hb hK hP 1 0 rfl rfl h_2 dX4_advance_22 ?_
        refine lv_iconst (v := (1 : Int32)) hx hb dX4_advance_23 (by decide) ?_
        refine lv_iadd hx hb dX4_advance_24 ?_
        refine zcallI (ci := 4) (q0 := 0) (As := [.int x2, .int ((rT x2.toNatClampNeg) + (1 : Int32))]) (rest := []) (wr := ([] : va_W)) (Wn := fun u => (kRow kI ro ra rT rs rg)) ⟨hx, hb, hml, hown, hts⟩ (c_X4_firstFree l dC dI kI kA kC ro ra _ rT rs rg x2 ((rT x2.toNatClampNeg) + (1 : Int32)) _ hw) (cwV 2 hts gX4_advance_X4_firstFree rfl rfl rfl (by decide +kernel) ⟨Nat.le_of_ble_eq_true rfl, Nat.le_of_ble_eq_true rfl⟩) hK hP hD hS hA [0, 1] [] [0, 1] rfl rfl (by decide) (by decide) (by decide) (fun u => rfl) (by decide) rfl rfl rfl rfl hl.1 rfl (Nat.le_of_ble_eq_true rfl) dX4_advance_25 ⟨Nat.zero_le _, Nat.zero_le _⟩ (fun r_3 u H locs hw hP hD hS => ?_)
        have hP : va_P (dC, dI) vwCl (kRow kI ro ra rT rs rg) H := hP
        have hD : va_D A (kRow kI ro ra rT rs rg) := hD
        refine lv_istore_n (lv' := [(3, .int r_3), (0, .ref ro), (2, .int x2)]) hx hb dX4_advance_28 rfl hl (by decide) rfl (fun ls hl => ?_)
        refine lv_iload_n hx hb dX4_advance_29 rfl (lv_at hl 0 rfl) ?_
        refine lv_aload_n hx hb dX4_advance_30 rfl (lv_at hl 1 rfl) ?_
        refine va_get (D := (dC, dI)) (ci := 4) (v := .int rg) (C := RX4) (T := TX4) (N := 3) hx hb hts in_X4_advance_X4 hown hK hP 0 rfl rfl 2 (by decide) (hts (.fieldLink RX4 19 "CakeMarks$Row" "guests" "I") (List.mem_of_getElem? (i := 7) rfl)) (fun _ h9 => h9) rfl dX4_advance_31 ?_
        refine lv_icmp_ge (tgt := 53) hx hb dX4_advance_34 (by decide) (fun c_4 => ?_) (fun c_4 => ?_)
        · have hw := hw.1 c_4
          refine lv_iinc (v := (x2 + (-1 : Int32))) (lv' := [(2, .int (x2 + (-1 : Int32))), (3, .int r_3), (0, .ref ro)]) hx hb dX4_advance_53 hl (k := 2) rfl (by first | rfl | decide) (by decide) rfl (fun ls hl => ?_)
          refine lv_goto (tgt := 11) hx hb dX4_advance_56 (by decide) ?_
          exact hJ11 (x2 + (-1 : Int32)) rT hw ls _ _ (lv_sub hl [2, 0] rfl) hP hD hS
        · have hw := hw.2 c_4
          refine lv_aload_n hx hb dX4_advance_37 rfl (lv_at hl 1 rfl) ?_
          refine va_get (D := (dC, dI)) (ci := 4) (v := .ref ra) (C := RX4) (T := TX4) (N := 3) hx hb hts in_X4_advance_X4 hown hK hP 0 rfl rfl 0 (by decide) (hts (.fieldLink RX4 9 "CakeMarks$Row" "at" "[I") (List.mem_of_getElem? (i := 6) rfl)) (fun _ h9 => h9) rfl dX4_advance_38 ?_
          refine lv_iload_n hx hb dX4_advance_41 rfl (lv_at hl 2 rfl) ?_
          refine lv_iload_n hx hb dX4_advance_42 rfl (lv_at hl 0 rfl) ?_
          refine va_iast hx hb hK hP hD hS 1 0 rfl rfl h_2 dX4_advance_43 (fun H locs hP hD hS => ?_)
          have hP : va_P (dC, dI) vwCl (kRow kI ro ra (upd rT x2.toNatClampNeg r_3) rs rg) H := hP
          have hD : va_D A (kRow kI ro ra (upd rT x2.toNatClampNeg r_3) rs rg) := hD
          refine lv_aload_n hx hb dX4_advance_44 rfl (lv_at hl 1 rfl) ?_
          refine lv_iload_n hx hb dX4_advance_45 rfl (lv_at hl 2 rfl) ?_
          refine lv_iconst (v := (1 : Int32)) hx hb dX4_advance_46 (by decide) ?_
          refine lv_iadd hx hb dX4_advance_47 ?_
          refine zcallV (ci := 4) (q0 := 0) (As := [.int (x2 + (1 : Int32))]) (rest := []) (wr := ([] : va_W)) (Wn := fun u => (kRow kI ro ra u rs rg)) ⟨hx, hb, hml, hown, hts⟩ (c_X4_fill l dC dI kI kA kC ro ra _ (upd rT x2.toNatClampNeg r_3) rs rg (x2 + (1 : Int32)) _ hw) (cwV 1 hts gX4_advance_X4_fill rfl rfl rfl (by decide +kernel) ⟨Nat.le_of_ble_eq_true rfl, Nat.le_of_ble_eq_true rfl⟩) hK hP hD hS hA [0, 1] [] [0, 1] rfl rfl (by decide) (by decide) (by decide) (fun u => rfl) (by decide) rfl rfl rfl rfl hl.1 rfl (Nat.le_of_ble_eq_true rfl) dX4_advance_48 ⟨Nat.zero_le _, Nat.zero_le _⟩ (fun rT_5 H locs hw hP hD hS => ?_)
          have hP : va_P (dC, dI) vwCl (kRow kI ro ra rT_5 rs rg) H := hP
          have hD : va_D A (kRow kI ro ra rT_5 rs rg) := hD
          refine lv_iconst (v := (1 : Int32)) hx hb dX4_advance_51 (by decide) ?_
          exact hret 52 (1 : Int32) rT_5 _ _ _ (fun _ => rfl) hw hP hD hS dX4_advance_52
  have hJ11 : ∀ (x2 : Int32) (rT : Nat → Int32), Wp_X4_advance_11 rs rg a1 Z x2 rT → ∀ (ls : Array Slot) (H : Heap) (locs : List Loc), lv_has ls 4 [(0, .ref ro), (2, .int x2)] → va_P (dC, dI) vwCl (kRow kI ro ra rT rs rg) H → va_D A (kRow kI ro ra rT rs rg) → va_S A s.heap H locs → W p l e ({ frames := 2, cells := 0, slots := 0, locals := 46 }) s m args below meth c H locs 0 0 Q (F0 m 11 ls []) := fun x2 rT hv => hv (fun x2 rT => ∀ (ls : Array Slot) (H : Heap) (locs : List Loc), lv_has ls 4 [(0, .ref ro), (2, .int x2)] → va_P (dC, dI) vwCl (kRow kI ro ra rT rs rg) H → va_D A (kRow kI ro ra rT rs rg) → va_S A s.heap H locs → W p l e ({ frames := 2, cells := 0, slots := 0, locals := 46 }) s m args below meth c H locs 0 0 Q (F0 m 11 ls [])) (fun J11 q11 => (key J11 q11))
  unfold Wp_X4_advance at hw
  refine lv_iload_n hx hb dX4_advance_0 rfl (lv_at hl 1 rfl) ?_
  refine lv_aload_n hx hb dX4_advance_1 rfl (lv_at hl 0 rfl) ?_
  refine va_get (D := (dC, dI)) (ci := 4) (v := .int rs) (C := RX4) (T := TX4) (N := 3) hx hb hts in_X4_advance_X4 hown hK hP 0 rfl rfl 1 (by decide) (hts (.fieldLink RX4 15 "CakeMarks$Row" "size" "I") (List.mem_of_getElem? (i := 1) rfl)) (fun _ h9 => h9) rfl dX4_advance_2 ?_
  refine lv_iconst (v := (1 : Int32)) hx hb dX4_advance_5 (by decide) ?_
  refine lv_isub hx hb dX4_advance_6 ?_
  refine va_mmin hx hb (hml.trans hl.1.symm) hown (hts (.methodLink RX4 22 Lib.Math.min.name) (List.mem_of_getElem? (i := 2) rfl)) (hts (.static Lib.Math.min.name) (List.mem_of_getElem? (i := 3) rfl)) (hts (.initialized "java/lang/Math") (List.mem_of_getElem? (i := 4) rfl)) (hts (.code Lib.Math.min.name Lib.Math.min.code 2 (some .int)) (List.mem_of_getElem? (i := 5) rfl)) (Nat.le_of_ble_eq_true rfl) (Nat.le_of_ble_eq_true rfl) (Nat.zero_le _) (Nat.zero_le _) dX4_advance_7 ?_
  refine lv_istore_n (lv' := [(2, .int (if (rs - (1 : Int32)) < a1 then (rs - (1 : Int32)) else a1)), (0, .ref ro), (1, .int a1)]) hx hb dX4_advance_10 rfl hl (by decide) rfl (fun ls hl => ?_)
  exact hJ11 (if (rs - (1 : Int32)) < a1 then (rs - (1 : Int32)) else a1) rT hw ls _ _ (lv_sub hl [1, 0] rfl) hP hD hS
