-- CakeMarks$Cake.arrows()I
def B_X0_arrows_4 (cg : Int32) (cw : Nat → Int32) (cV : Nat → Nat → Int32) (Z : Int32 → Prop) (J4 : Int32 → Int32 → Prop) (J14 : Int32 → Int32 → Int32 → Prop) (x1 : Int32) (x2 : Int32) : Prop := ((cg ≤ x2 → (Z x1)) ∧ (¬ cg ≤ x2 → (J14 x1 x2 (0 : Int32))))
def B_X0_arrows_14 (cg : Int32) (cw : Nat → Int32) (cV : Nat → Nat → Int32) (Z : Int32 → Prop) (J4 : Int32 → Int32 → Prop) (J14 : Int32 → Int32 → Int32 → Prop) (x1 : Int32) (x2 : Int32) (x3 : Int32) : Prop := ((cg ≤ x3 → (J4 x1 (x2 + (1 : Int32)))) ∧ (¬ cg ≤ x3 → (Wp_X0_envyOf cw cV x2 x3 (fun r_3 => ((r_3 ≤ (0 : Int32) → (J14 x1 x2 (x3 + (1 : Int32)))) ∧ (¬ r_3 ≤ (0 : Int32) → (J14 (x1 + (1 : Int32)) x2 (x3 + (1 : Int32)))))))))
def Wp_X0_arrows_4 (cg : Int32) (cw : Nat → Int32) (cV : Nat → Nat → Int32) (Z : Int32 → Prop) (x1 : Int32) (x2 : Int32) : Prop := ∀ (I4 : Int32 → Int32 → Prop) (I14 : Int32 → Int32 → Int32 → Prop), (∀ (J4 : Int32 → Int32 → Prop) (J14 : Int32 → Int32 → Int32 → Prop), (∀ (x1 : Int32) (x2 : Int32), J4 x1 x2 → I4 x1 x2) → (∀ (x1 : Int32) (x2 : Int32) (x3 : Int32), J14 x1 x2 x3 → I14 x1 x2 x3) → ∀ (x1 : Int32) (x2 : Int32), B_X0_arrows_4 cg cw cV Z J4 J14 x1 x2 → I4 x1 x2) → (∀ (J4 : Int32 → Int32 → Prop) (J14 : Int32 → Int32 → Int32 → Prop), (∀ (x1 : Int32) (x2 : Int32), J4 x1 x2 → I4 x1 x2) → (∀ (x1 : Int32) (x2 : Int32) (x3 : Int32), J14 x1 x2 x3 → I14 x1 x2 x3) → ∀ (x1 : Int32) (x2 : Int32) (x3 : Int32), B_X0_arrows_14 cg cw cV Z J4 J14 x1 x2 x3 → I14 x1 x2 x3) → I4 x1 x2
def Wp_X0_arrows_14 (cg : Int32) (cw : Nat → Int32) (cV : Nat → Nat → Int32) (Z : Int32 → Prop) (x1 : Int32) (x2 : Int32) (x3 : Int32) : Prop := ∀ (I4 : Int32 → Int32 → Prop) (I14 : Int32 → Int32 → Int32 → Prop), (∀ (J4 : Int32 → Int32 → Prop) (J14 : Int32 → Int32 → Int32 → Prop), (∀ (x1 : Int32) (x2 : Int32), J4 x1 x2 → I4 x1 x2) → (∀ (x1 : Int32) (x2 : Int32) (x3 : Int32), J14 x1 x2 x3 → I14 x1 x2 x3) → ∀ (x1 : Int32) (x2 : Int32), B_X0_arrows_4 cg cw cV Z J4 J14 x1 x2 → I4 x1 x2) → (∀ (J4 : Int32 → Int32 → Prop) (J14 : Int32 → Int32 → Int32 → Prop), (∀ (x1 : Int32) (x2 : Int32), J4 x1 x2 → I4 x1 x2) → (∀ (x1 : Int32) (x2 : Int32) (x3 : Int32), J14 x1 x2 x3 → I14 x1 x2 x3) → ∀ (x1 : Int32) (x2 : Int32) (x3 : Int32), B_X0_arrows_14 cg cw cV Z J4 J14 x1 x2 x3 → I14 x1 x2 x3) → I14 x1 x2 x3
theorem F_X0_arrows_4 (cg : Int32) (cw : Nat → Int32) (cV : Nat → Nat → Int32) (Z : Int32 → Prop) (x1 : Int32) (x2 : Int32) (h : B_X0_arrows_4 cg cw cV Z (Wp_X0_arrows_4 cg cw cV Z) (Wp_X0_arrows_14 cg cw cV Z) x1 x2) : Wp_X0_arrows_4 cg cw cV Z x1 x2 := fun I4 I14 h4 h14 => h4 _ _ (fun x1 x2 hx => hx I4 I14 h4 h14) (fun x1 x2 x3 hx => hx I4 I14 h4 h14) x1 x2 h
theorem F_X0_arrows_14 (cg : Int32) (cw : Nat → Int32) (cV : Nat → Nat → Int32) (Z : Int32 → Prop) (x1 : Int32) (x2 : Int32) (x3 : Int32) (h : B_X0_arrows_14 cg cw cV Z (Wp_X0_arrows_4 cg cw cV Z) (Wp_X0_arrows_14 cg cw cV Z) x1 x2 x3) : Wp_X0_arrows_14 cg cw cV Z x1 x2 x3 := fun I4 I14 h4 h14 => h14 _ _ (fun x1 x2 hx => hx I4 I14 h4 h14) (fun x1 x2 x3 hx => hx I4 I14 h4 h14) x1 x2 x3 h
def Wp_X0_arrows (cg : Int32) (cw : Nat → Int32) (cV : Nat → Nat → Int32) (Z : Int32 → Prop) : Prop := ((Wp_X0_arrows_4 cg cw cV Z) (0 : Int32) (0 : Int32))
theorem in_X0_arrows_X0 : ∀ w ∈ u_ws RX0 TX0 3, w ∈ wsX0_arrows := fun w h => List.mem_cons_of_mem _ (List.mem_append_right _ h)
set_option maxHeartbeats 20000000 in
set_option maxRecDepth 100000 in
theorem c_X0_arrows (l : Launch) (dC : Nat → ClassId) (dI : Nat → Nat → Nat) (kI kA kC : ClassId) (co : Nat) (ca : Nat) (cv : Nat) (cr : Nat → Nat) (sz : Nat) (cg : Int32) (cw : Nat → Int32) (cV : Nat → Nat → Int32) (Z : Int32 → Prop) (hw : Wp_X0_arrows cg cw cV Z) : zI l yX0_arrows wsX0_arrows ({ frames := 3, cells := 0, slots := 0, locals := 70 }) dC dI kI kA kC sz 0 0 [.ref co] (kCake kI kA co ca cv cr cg cw cV) (fun (r : Int32) (u : Unit) => Z r ) (fun (u : Unit) => (kCake kI kA co ca cv cr cg cw cV)) := by
  refine zI.of (cc := cX0_arrows) (maxL := 4) (ty := .int) (by decide) rfl (Nat.le_of_ble_eq_true rfl) (Or.inl rfl) ?_
  intro p e s m args below meth c A Q C0 hret ls hl
  obtain ⟨hx, hb, hr, hml, hts, hown, hin, hP, hK, hD, hA, hS⟩ := C0
  have hown : s.vm.findClass RX0 = some m.cls := hown
  have hl : lv_has ls 4 [(0, .ref co)] := hl
  have key : ∀ (J4 : Int32 → Int32 → Prop) (J14 : Int32 → Int32 → Int32 → Prop) (hJ4 : ∀ (x1 : Int32) (x2 : Int32), J4 x1 x2 → ∀ (ls : Array Slot) (H : Heap) (locs : List Loc), lv_has ls 4 [(0, .ref co), (1, .int x1), (2, .int x2)] → va_P (dC, dI) vwCl (kCake kI kA co ca cv cr cg cw cV) H → va_D A (kCake kI kA co ca cv cr cg cw cV) → va_S A s.heap H locs → W p l e ({ frames := 3, cells := 0, slots := 0, locals := 70 }) s m args below meth c H locs 0 0 Q (F0 m 4 ls [])) (hJ14 : ∀ (x1 : Int32) (x2 : Int32) (x3 : Int32), J14 x1 x2 x3 → ∀ (ls : Array Slot) (H : Heap) (locs : List Loc), lv_has ls 4 [(0, .ref co), (1, .int x1), (2, .int x2), (3, .int x3)] → va_P (dC, dI) vwCl (kCake kI kA co ca cv cr cg cw cV) H → va_D A (kCake kI kA co ca cv cr cg cw cV) → va_S A s.heap H locs → W p l e ({ frames := 3, cells := 0, slots := 0, locals := 70 }) s m args below meth c H locs 0 0 Q (F0 m 14 ls [])), (∀ (x1 : Int32) (x2 : Int32), B_X0_arrows_4 cg cw cV Z J4 J14 x1 x2 → ∀ (ls : Array Slot) (H : Heap) (locs : List Loc), lv_has ls 4 [(0, .ref co), (1, .int x1), (2, .int x2)] → va_P (dC, dI) vwCl (kCake kI kA co ca cv cr cg cw cV) H → va_D A (kCake kI kA co ca cv cr cg cw cV) → va_S A s.heap H locs → W p l e ({ frames := 3, cells := 0, slots := 0, locals := 70 }) s m args below meth c H locs 0 0 Q (F0 m 4 ls [])) ∧ (∀ (x1 : Int32) (x2 : Int32) (x3 : Int32), B_X0_arrows_14 cg cw cV Z J4 J14 x1 x2 x3 → ∀ (ls : Array Slot) (H : Heap) (locs : List Loc), lv_has ls 4 [(0, .ref co), (1, .int x1), (2, .int x2), (3, .int x3)] → va_P (dC, dI) vwCl (kCake kI kA co ca cv cr cg cw cV) H → va_D A (kCake kI kA co ca cv cr cg cw cV) → va_S A s.heap H locs → W p l e ({ frames := 3, cells := 0, slots := 0, locals := 70 }) s m args below meth c H locs 0 0 Q (F0 m 14 ls [])) := by
    intro J4 J14 hJ4 hJ14
    refine ⟨?_, ?_⟩
    · intro x1 x2 hw ls H locs hl hP hD hS
      unfold B_X0_arrows_4 at hw
      refine lv_iload_n hx hb dX0_arrows_4 rfl (lv_at hl 2 rfl) ?_
      refine lv_aload_n hx hb dX0_arrows_5 rfl (lv_at hl 0 rfl) ?_
      refine va_get (D := (dC, dI)) (ci := 0) (v := .int cg) (C := RX0) (T := TX0) (N := 3) hx hb hts in_X0_arrows_X0 hown hK hP 0 rfl rfl 0 (by decide) (hts (.fieldLink RX0 9 "CakeMarks$Cake" "guests" "I") (List.mem_of_getElem? (i := 1) rfl)) (fun _ h9 => h9) rfl dX0_arrows_6 ?_
      refine lv_icmp_ge (tgt := 46) hx hb dX0_arrows_9 (by decide) (fun c_1 => ?_) (fun c_1 => ?_)
      · have hw := hw.1 c_1
        refine lv_iload_n hx hb dX0_arrows_46 rfl (lv_at hl 1 rfl) ?_
        exact hret 47 x1 () _ _ _ (fun h => absurd h (by decide)) hw hP hD hS dX0_arrows_47
      · have hw := hw.2 c_1
        refine lv_iconst (v := (0 : Int32)) hx hb dX0_arrows_12 (by decide) ?_
        refine lv_istore_n (lv' := [(3, .int (0 : Int32)), (0, .ref co), (1, .int x1), (2, .int x2)]) hx hb dX0_arrows_13 rfl hl (by decide) rfl (fun ls hl => ?_)
        exact hJ14 x1 x2 (0 : Int32) hw ls _ _ (lv_sub hl [1, 2, 3, 0] rfl) hP hD hS
    · intro x1 x2 x3 hw ls H locs hl hP hD hS
      unfold B_X0_arrows_14 at hw
      refine lv_iload_n hx hb dX0_arrows_14 rfl (lv_at hl 3 rfl) ?_
      refine lv_aload_n hx hb dX0_arrows_15 rfl (lv_at hl 0 rfl) ?_
      refine va_get (D := (dC, dI)) (ci := 0) (v := .int cg) (C := RX0) (T := TX0) (N := 3) hx hb hts in_X0_arrows_X0 hown hK hP 0 rfl rfl 0 (by decide) (hts (.fieldLink RX0 9 "CakeMarks$Cake" "guests" "I") (List.mem_of_getElem? (i := 1) rfl)) (fun _ h9 => h9) rfl dX0_arrows_16 ?_
      refine lv_icmp_ge (tgt := 40) hx hb dX0_arrows_19 (by decide) (fun c_2 => ?_) (fun c_2 => ?_)
      · have hw := hw.1 c_2
        refine lv_iinc (v := (x2 + (1 : Int32))) (lv' := [(2, .int (x2 + (1 : Int32))), (0, .ref co), (1, .int x1), (3, .int x3)]) hx hb dX0_arrows_40 hl (k := 2) rfl (by first | rfl | decide) (by decide) rfl (fun ls hl => ?_)
        refine lv_goto (tgt := 4) hx hb dX0_arrows_43 (by decide) ?_
        exact hJ4 x1 (x2 + (1 : Int32)) hw ls _ _ (lv_sub hl [1, 2, 0] rfl) hP hD hS
      · have hw := hw.2 c_2
        refine lv_aload_n hx hb dX0_arrows_22 rfl (lv_at hl 0 rfl) ?_
        refine lv_iload_n hx hb dX0_arrows_23 rfl (lv_at hl 2 rfl) ?_
        refine lv_iload_n hx hb dX0_arrows_24 rfl (lv_at hl 3 rfl) ?_
        refine zcallI (ci := 0) (q0 := 0) (As := [.int x2, .int x3]) (rest := []) (wr := ([] : va_W)) (Wn := fun u => (kCake kI kA co ca cv cr cg cw cV)) ⟨hx, hb, hml, hown, hts⟩ (c_X0_envyOf l dC dI kI kA kC co ca cv cr _ cg cw cV x2 x3 _ hw) (cwV 2 hts gX0_arrows_X0_envyOf rfl rfl rfl (by decide +kernel) ⟨Nat.le_of_ble_eq_true rfl, Nat.le_of_ble_eq_true rfl⟩) hK hP hD hS hA [0, 1, 2, 3, 4, 5, 6] [] [0, 1, 2, 3, 4, 5, 6] rfl rfl (by decide) (by decide) (by decide) (fun u => rfl) (by decide) rfl rfl rfl rfl hl.1 rfl (Nat.le_of_ble_eq_true rfl) dX0_arrows_25 ⟨Nat.zero_le _, Nat.zero_le _⟩ (fun r_3 u H locs hw hP hD hS => ?_)
        have hP : va_P (dC, dI) vwCl (kCake kI kA co ca cv cr cg cw cV) H := hP
        have hD : va_D A (kCake kI kA co ca cv cr cg cw cV) := hD
        refine lv_if_le (tgt := 34) hx hb dX0_arrows_28 (by decide) (fun c_4 => ?_) (fun c_4 => ?_)
        · have hw := hw.1 c_4
          refine lv_iinc (v := (x3 + (1 : Int32))) (lv' := [(3, .int (x3 + (1 : Int32))), (0, .ref co), (1, .int x1), (2, .int x2)]) hx hb dX0_arrows_34 hl (k := 3) rfl (by first | rfl | decide) (by decide) rfl (fun ls hl => ?_)
          refine lv_goto (tgt := 14) hx hb dX0_arrows_37 (by decide) ?_
          exact hJ14 x1 x2 (x3 + (1 : Int32)) hw ls _ _ (lv_sub hl [1, 2, 3, 0] rfl) hP hD hS
        · have hw := hw.2 c_4
          refine lv_iinc (v := (x1 + (1 : Int32))) (lv' := [(1, .int (x1 + (1 : Int32))), (0, .ref co), (2, .int x2), (3, .int x3)]) hx hb dX0_arrows_31 hl (k := 1) rfl (by first | rfl | decide) (by decide) rfl (fun ls hl => ?_)
          refine lv_iinc (v := (x3 + (1 : Int32))) (lv' := [(3, .int (x3 + (1 : Int32))), (1, .int (x1 + (1 : Int32))), (0, .ref co), (2, .int x2)]) hx hb dX0_arrows_34 hl (k := 3) rfl (by first | rfl | decide) (by decide) rfl (fun ls hl => ?_)
          refine lv_goto (tgt := 14) hx hb dX0_arrows_37 (by decide) ?_
          exact hJ14 (x1 + (1 : Int32)) x2 (x3 + (1 : Int32)) hw ls _ _ (lv_sub hl [2, 1, 3, 0] rfl) hP hD hS
  have hJ4 : ∀ (x1 : Int32) (x2 : Int32), Wp_X0_arrows_4 cg cw cV Z x1 x2 → ∀ (ls : Array Slot) (H : Heap) (locs : List Loc), lv_has ls 4 [(0, .ref co), (1, .int x1), (2, .int x2)] → va_P (dC, dI) vwCl (kCake kI kA co ca cv cr cg cw cV) H → va_D A (kCake kI kA co ca cv cr cg cw cV) → va_S A s.heap H locs → W p l e ({ frames := 3, cells := 0, slots := 0, locals := 70 }) s m args below meth c H locs 0 0 Q (F0 m 4 ls []) := fun x1 x2 hv => hv (fun x1 x2 => ∀ (ls : Array Slot) (H : Heap) (locs : List Loc), lv_has ls 4 [(0, .ref co), (1, .int x1), (2, .int x2)] → va_P (dC, dI) vwCl (kCake kI kA co ca cv cr cg cw cV) H → va_D A (kCake kI kA co ca cv cr cg cw cV) → va_S A s.heap H locs → W p l e ({ frames := 3, cells := 0, slots := 0, locals := 70 }) s m args below meth c H locs 0 0 Q (F0 m 4 ls [])) (fun x1 x2 x3 => ∀ (ls : Array Slot) (H : Heap) (locs : List Loc), lv_has ls 4 [(0, .ref co), (1, .int x1), (2, .int x2), (3, .int x3)] → va_P (dC, dI) vwCl (kCake kI kA co ca cv cr cg cw cV) H → va_D A (kCake kI kA co ca cv cr cg cw cV) → va_S A s.heap H locs → W p l e ({ frames := 3, cells := 0, slots := 0, locals := 70 }) s m args below meth c H locs 0 0 Q (F0 m 14 ls [])) (fun J4 J14 q4 q14 => (key J4 J14 q4 q14).1) (fun J4 J14 q4 q14 => (key J4 J14 q4 q14).2)
  have hJ14 : ∀ (x1 : Int32) (x2 : Int32) (x3 : Int32), Wp_X0_arrows_14 cg cw cV Z x1 x2 x3 → ∀ (ls : Array Slot) (H : Heap) (locs : List Loc), lv_has ls 4 [(0, .ref co), (1, .int x1), (2, .int x2), (3, .int x3)] → va_P (dC, dI) vwCl (kCake kI kA co ca cv cr cg cw cV) H → va_D A (kCake kI kA co ca cv cr cg cw cV) → va_S A s.heap H locs → W p l e ({ frames := 3, cells := 0, slots := 0, locals := 70 }) s m args below meth c H locs 0 0 Q (F0 m 14 ls []) := fun x1 x2 x3 hv => hv (fun x1 x2 => ∀ (ls : Array Slot) (H : Heap) (locs : List Loc), lv_has ls 4 [(0, .ref co), (1, .int x1), (2, .int x2)] → va_P (dC, dI) vwCl (kCake kI kA co ca cv cr cg cw cV) H → va_D A (kCake kI kA co ca cv cr cg cw cV) → va_S A s.heap H locs → W p l e ({ frames := 3, cells := 0, slots := 0, locals := 70 }) s m args below meth c H locs 0 0 Q (F0 m 4 ls [])) (fun x1 x2 x3 => ∀ (ls : Array Slot) (H : Heap) (locs : List Loc), lv_has ls 4 [(0, .ref co), (1, .int x1), (2, .int x2), (3, .int x3)] → va_P (dC, dI) vwCl (kCake kI kA co ca cv cr cg cw cV) H → va_D A (kCake kI kA co ca cv cr cg cw cV) → va_S A s.heap H locs → W p l e ({ frames := 3, cells := 0, slots := 0, locals := 70 }) s m args below meth c H locs 0 0 Q (F0 m 14 ls [])) (fun J4 J14 q4 q14 => (key J4 J14 q4 q14).1) (fun J4 J14 q4 q14 => (key J4 J14 q4 q14).2)
  unfold Wp_X0_arrows at hw
  refine lv_iconst (v := (0 : Int32)) hx hb dX0_arrows_0 (by decide) ?_
  refine lv_istore_n (lv' := [(1, .int (0 : Int32)), (0, .ref co)]) hx hb dX0_arrows_1 rfl hl (by decide) rfl (fun ls hl => ?_)
  refine lv_iconst (v := (0 : Int32)) hx hb dX0_arrows_2 (by decide) ?_
  refine lv_istore_n (lv' := [(2, .int (0 : Int32)), (1, .int (0 : Int32)), (0, .ref co)]) hx hb dX0_arrows_3 rfl hl (by decide) rfl (fun ls hl => ?_)
  exact hJ4 (0 : Int32) (0 : Int32) hw ls _ _ (lv_sub hl [2, 1, 0] rfl) hP hD hS
-- CakeMarks$Cake.allEnvies()I
def B_X0_allEnvies_4 (cg : Int32) (cw : Nat → Int32) (cV : Nat → Nat → Int32) (Z : Int32 → Prop) (J4 : Int32 → Int32 → Prop) (J14 : Int32 → Int32 → Int32 → Prop) (x1 : Int32) (x2 : Int32) : Prop := ((cg ≤ x2 → (Z x1)) ∧ (¬ cg ≤ x2 → (J14 x1 x2 (0 : Int32))))
def B_X0_allEnvies_14 (cg : Int32) (cw : Nat → Int32) (cV : Nat → Nat → Int32) (Z : Int32 → Prop) (J4 : Int32 → Int32 → Prop) (J14 : Int32 → Int32 → Int32 → Prop) (x1 : Int32) (x2 : Int32) (x3 : Int32) : Prop := ((cg ≤ x3 → (J4 x1 (x2 + (1 : Int32)))) ∧ (¬ cg ≤ x3 → (Wp_X0_envyOf cw cV x2 x3 (fun r_3 => (J14 (x1 + r_3) x2 (x3 + (1 : Int32)))))))
def Wp_X0_allEnvies_4 (cg : Int32) (cw : Nat → Int32) (cV : Nat → Nat → Int32) (Z : Int32 → Prop) (x1 : Int32) (x2 : Int32) : Prop := ∀ (I4 : Int32 → Int32 → Prop) (I14 : Int32 → Int32 → Int32 → Prop), (∀ (J4 : Int32 → Int32 → Prop) (J14 : Int32 → Int32 → Int32 → Prop), (∀ (x1 : Int32) (x2 : Int32), J4 x1 x2 → I4 x1 x2) → (∀ (x1 : Int32) (x2 : Int32) (x3 : Int32), J14 x1 x2 x3 → I14 x1 x2 x3) → ∀ (x1 : Int32) (x2 : Int32), B_X0_allEnvies_4 cg cw cV Z J4 J14 x1 x2 → I4 x1 x2) → (∀ (J4 : Int32 → Int32 → Prop) (J14 : Int32 → Int32 → Int32 → Prop), (∀ (x1 : Int32) (x2 : Int32), J4 x1 x2 → I4 x1 x2) → (∀ (x1 : Int32) (x2 : Int32) (x3 : Int32), J14 x1 x2 x3 → I14 x1 x2 x3) → ∀ (x1 : Int32) (x2 : Int32) (x3 : Int32), B_X0_allEnvies_14 cg cw cV Z J4 J14 x1 x2 x3 → I14 x1 x2 x3) → I4 x1 x2
def Wp_X0_allEnvies_14 (cg : Int32) (cw : Nat → Int32) (cV : Nat → Nat → Int32) (Z : Int32 → Prop) (x1 : Int32) (x2 : Int32) (x3 : Int32) : Prop := ∀ (I4 : Int32 → Int32 → Prop) (I14 : Int32 → Int32 → Int32 → Prop), (∀ (J4 : Int32 → Int32 → Prop) (J14 : Int32 → Int32 → Int32 → Prop), (∀ (x1 : Int32) (x2 : Int32), J4 x1 x2 → I4 x1 x2) → (∀ (x1 : Int32) (x2 : Int32) (x3 : Int32), J14 x1 x2 x3 → I14 x1 x2 x3) → ∀ (x1 : Int32) (x2 : Int32), B_X0_allEnvies_4 cg cw cV Z J4 J14 x1 x2 → I4 x1 x2) → (∀ (J4 : Int32 → Int32 → Prop) (J14 : Int32 → Int32 → Int32 → Prop), (∀ (x1 : Int32) (x2 : Int32), J4 x1 x2 → I4 x1 x2) → (∀ (x1 : Int32) (x2 : Int32) (x3 : Int32), J14 x1 x2 x3 → I14 x1 x2 x3) → ∀ (x1 : Int32) (x2 : Int32) (x3 : Int32), B_X0_allEnvies_14 cg cw cV Z J4 J14 x1 x2 x3 → I14 x1 x2 x3) → I14 x1 x2 x3
theorem F_X0_allEnvies_4 (cg : Int32) (cw : Nat → Int32) (cV : Nat → Nat → Int32) (Z : Int32 → Prop) (x1 : Int32) (x2 : Int32) (h : B_X0_allEnvies_4 cg cw cV Z (Wp_X0_allEnvies_4 cg cw cV Z) (Wp_X0_allEnvies_14 cg cw cV Z) x1 x2) : Wp_X0_allEnvies_4 cg cw cV Z x1 x2 := fun I4 I14 h4 h14 => h4 _ _ (fun x1 x2 hx => hx I4 I14 h4 h14) (fun x1 x2 x3 hx => hx I4 I14 h4 h14) x1 x2 h
theorem F_X0_allEnvies_14 (cg : Int32) (cw : Nat → Int32) (cV : Nat → Nat → Int32) (Z : Int32 → Prop) (x1 : Int32) (x2 : Int32) (x3 : Int32) (h : B_X0_allEnvies_14 cg cw cV Z (Wp_X0_allEnvies_4 cg cw cV Z) (Wp_X0_allEnvies_14 cg cw cV Z) x1 x2 x3) : Wp_X0_allEnvies_14 cg cw cV Z x1 x2 x3 := fun I4 I14 h4 h14 => h14 _ _ (fun x1 x2 hx => hx I4 I14 h4 h14) (fun x1 x2 x3 hx => hx I4 I14 h4 h14) x1 x2 x3 h
def Wp_X0_allEnvies (cg : Int32) (cw : Nat → Int32) (cV : Nat → Nat → Int32) (Z : Int32 → Prop) : Prop := ((Wp_X0_allEnvies_4 cg cw cV Z) (0 : Int32) (0 : Int32))
theorem in_X0_allEnvies_X0 : ∀ w ∈ u_ws RX0 TX0 3, w ∈ wsX0_allEnvies := fun w h => List.mem_cons_of_mem _ (List.mem_append_right _ h)
set_option maxHeartbeats 20000000 in
set_option maxRecDepth 100000 in
theorem c_X0_allEnvies (l : Launch) (dC : Nat → ClassId) (dI : Nat → Nat → Nat) (kI kA kC : ClassId) (co : Nat) (ca : Nat) (cv : Nat) (cr : Nat → Nat) (sz : Nat) (cg : Int32) (cw : Nat → Int32) (cV : Nat → Nat → Int32) (Z : Int32 → Prop) (hw : Wp_X0_allEnvies cg cw cV Z) : zI l yX0_allEnvies wsX0_allEnvies ({ frames := 3, cells := 0, slots := 0, locals := 70 }) dC dI kI kA kC sz 0 0 [.ref co] (kCake kI kA co ca cv cr cg cw cV) (fun (r : Int32) (u : Unit) => Z r ) (fun (u : Unit) => (kCake kI kA co ca cv cr cg cw cV)) := by
  refine zI.of (cc := cX0_allEnvies) (maxL := 4) (ty := .int) (by decide) rfl (Nat.le_of_ble_eq_true rfl) (Or.inl rfl) ?_
  intro p e s m args below meth c A Q C0 hret ls hl
  obtain ⟨hx, hb, hr, hml, hts, hown, hin, hP, hK, hD, hA, hS⟩ := C0
  have hown : s.vm.findClass RX0 = some m.cls := hown
  have hl : lv_has ls 4 [(0, .ref co)] := hl
  have key : ∀ (J4 : Int32 → Int32 → Prop) (J14 : Int32 → Int32 → Int32 → Prop) (hJ4 : ∀ (x1 : Int32) (x2 : Int32), J4 x1 x2 → ∀ (ls : Array Slot) (H : Heap) (locs : List Loc), lv_has ls 4 [(0, .ref co), (1, .int x1), (2, .int x2)] → va_P (dC, dI) vwCl (kCake kI kA co ca cv cr cg cw cV) H → va_D A (kCake kI kA co ca cv cr cg cw cV) → va_S A s.heap H locs → W p l e ({ frames := 3, cells := 0, slots := 0, locals := 70 }) s m args below meth c H locs 0 0 Q (F0 m 4 ls [])) (hJ14 : ∀ (x1 : Int32) (x2 : Int32) (x3 : Int32), J14 x1 x2 x3 → ∀ (ls : Array Slot) (H : Heap) (locs : List Loc), lv_has ls 4 [(0, .ref co), (1, .int x1), (2, .int x2), (3, .int x3)] → va_P (dC, dI) vwCl (kCake kI kA co ca cv cr cg cw cV) H → va_D A (kCake kI kA co ca cv cr cg cw cV) → va_S A s.heap H locs → W p l e ({ frames := 3, cells := 0, slots := 0, locals := 70 }) s m args below meth c H locs 0 0 Q (F0 m 14 ls [])), (∀ (x1 : Int32) (x2 : Int32), B_X0_allEnvies_4 cg cw cV Z J4 J14 x1 x2 → ∀ (ls : Array Slot) (H : Heap) (locs : List Loc), lv_has ls 4 [(0, .ref co), (1, .int x1), (2, .int x2)] → va_P (dC, dI) vwCl (kCake kI kA co ca cv cr cg cw cV) H → va_D A (kCake kI kA co ca cv cr cg cw cV) → va_S A s.heap H locs → W p l e ({ frames := 3, cells := 0, slots := 0, locals := 70 }) s m args below meth c H locs 0 0 Q (F0 m 4 ls [])) ∧ (∀ (x1 : Int32) (x2 : Int32) (x3 : Int32), B_X0_allEnvies_14 cg cw cV Z J4 J14 x1 x2 x3 → ∀ (ls : Array Slot) (H : Heap) (locs : List Loc), lv_has ls 4 [(0, .ref co), (1, .int x1), (2, .int x2), (3, .int x3)] → va_P (dC, dI) vwCl (kCake kI kA co ca cv cr cg cw cV) H → va_D A (kCake kI kA co ca cv cr cg cw cV) → va_S A s.heap H locs → W p l e ({ frames := 3, cells := 0, slots := 0, locals := 70 }) s m args below meth c H locs 0 0 Q (F0 m 14 ls [])) := by
    intro J4 J14 hJ4 hJ14
    refine ⟨?_, ?_⟩
    · intro x1 x2 hw ls H locs hl hP hD hS
      unfold B_X0_allEnvies_4 at hw
      refine lv_iload_n hx hb dX0_allEnvies_4 rfl (lv_at hl 2 rfl) ?_
      refine lv_aload_n hx hb dX0_allEnvies_5 rfl (lv_at hl 0 rfl) ?_
      refine va_get (D := (dC, dI)) (ci := 0) (v := .int cg) (C := RX0) (T := TX0) (N := 3) hx hb hts in_X0_allEnvies_X0 hown hK hP 0 rfl rfl 0 (by decide) (hts (.fieldLink RX0 9 "CakeMarks$Cake" "guests" "I") (List.mem_of_getElem? (i := 1) rfl)) (fun _ h9 => h9) rfl dX0_allEnvies_6 ?_
      refine lv_icmp_ge (tgt := 43) hx hb dX0_allEnvies_9 (by decide) (fun c_1 => ?_) (fun c_1 => ?_)
      · have hw := hw.1 c_1
        refine lv_iload_n hx hb dX0_allEnvies_43 rfl (lv_at hl 1 rfl) ?_
        exact hret 44 x1 () _ _ _ (fun h => absurd h (by decide)) hw hP hD hS dX0_allEnvies_44
      · have hw := hw.2 c_1
        refine lv_iconst (v := (0 : Int32)) hx hb dX0_allEnvies_12 (by decide) ?_
        refine lv_istore_n (lv' := [(3, .int (0 : Int32)), (0, .ref co), (1, .int x1), (2, .int x2)]) hx hb dX0_allEnvies_13 rfl hl (by decide) rfl (fun ls hl => ?_)
        exact hJ14 x1 x2 (0 : Int32) hw ls _ _ (lv_sub hl [1, 2, 3, 0] rfl) hP hD hS
    · intro x1 x2 x3 hw ls H locs hl hP hD hS
      unfold B_X0_allEnvies_14 at hw
      refine lv_iload_n hx hb dX0_allEnvies_14 rfl (lv_at hl 3 rfl) ?_
      refine lv_aload_n hx hb dX0_allEnvies_15 rfl (lv_at hl 0 rfl) ?_
      refine va_get (D := (dC, dI)) (ci := 0) (v := .int cg) (C := RX0) (T := TX0) (N := 3) hx hb hts in_X0_allEnvies_X0 hown hK hP 0 rfl rfl 0 (by decide) (hts (.fieldLink RX0 9 "CakeMarks$Cake" "guests" "I") (List.mem_of_getElem? (i := 1) rfl)) (fun _ h9 => h9) rfl dX0_allEnvies_16 ?_
      refine lv_icmp_ge (tgt := 37) hx hb dX0_allEnvies_19 (by decide) (fun c_2 => ?_) (fun c_2 => ?_)
      · have hw := hw.1 c_2
        refine lv_iinc (v := (x2 + (1 : Int32))) (lv' := [(2, .int (x2 + (1 : Int32))), (0, .ref co), (1, .int x1), (3, .int x3)]) hx hb dX0_allEnvies_37 hl (k := 2) rfl (by first | rfl | decide) (by decide) rfl (fun ls hl => ?_)
        refine lv_goto (tgt := 4) hx hb dX0_allEnvies_40 (by decide) ?_
        exact hJ4 x1 (x2 + (1 : Int32)) hw ls _ _ (lv_sub hl [1, 2, 0] rfl) hP hD hS
      · have hw := hw.2 c_2
        refine lv_iload_n hx hb dX0_allEnvies_22 rfl (lv_at hl 1 rfl) ?_
        refine lv_aload_n hx hb dX0_allEnvies_23 rfl (lv_at hl 0 rfl) ?_
        refine lv_iload_n hx hb dX0_allEnvies_24 rfl (lv_at hl 2 rfl) ?_
        refine lv_iload_n hx hb dX0_allEnvies_25 rfl (lv_at hl 3 rfl) ?_
        refine zcallI (ci := 0) (q0 := 0) (As := [.int x2, .int x3]) (rest := [.int x1]) (wr := ([] : va_W)) (Wn := fun u => (kCake kI kA co ca cv cr cg cw cV)) ⟨hx, hb, hml, hown, hts⟩ (c_X0_envyOf l dC dI kI kA kC co ca cv cr _ cg cw cV x2 x3 _ hw) (cwV 2 hts gX0_allEnvies_X0_envyOf rfl rfl rfl (by decide +kernel) ⟨Nat.le_of_ble_eq_true rfl, Nat.le_of_ble_eq_true rfl⟩) hK hP hD hS hA [0, 1, 2, 3, 4, 5, 6] [] [0, 1, 2, 3, 4, 5, 6] rfl rfl (by decide) (by decide) (by decide) (fun u => rfl) (by decide) rfl rfl rfl rfl hl.1 rfl (Nat.le_of_ble_eq_true rfl) dX0_allEnvies_26 ⟨Nat.zero_le _, Nat.zero_le _⟩ (fun r_3 u H locs hw hP hD hS => ?_)
        have hP : va_P (dC, dI) vwCl (kCake kI kA co ca cv cr cg cw cV) H := hP
        have hD : va_D A (kCake kI kA co ca cv cr cg cw cV) := hD
        refine lv_iadd hx hb dX0_allEnvies_29 ?_
        refine lv_istore_n (lv' := [(1, .int (x1 + r_3)), (0, .ref co), (2, .int x2), (3, .int x3)]) hx hb dX0_allEnvies_30 rfl hl (by decide) rfl (fun ls hl => ?_)
        refine lv_iinc (v := (x3 + (1 : Int32))) (lv' := [(3, .int (x3 + (1 : Int32))), (1, .int (x1 + r_3)), (0, .ref co), (2, .int x2)]) hx hb dX0_allEnvies_31 hl (k := 3) rfl (by first | rfl | decide) (by decide) rfl (fun ls hl => ?_)
        refine lv_goto (tgt := 14) hx hb dX0_allEnvies_34 (by decide) ?_
        exact hJ14 (x1 + r_3) x2 (x3 + (1 : Int32)) hw ls _ _ (lv_sub hl [2, 1, 3, 0] rfl) hP hD hS
  have hJ4 : ∀ (x1 : Int32) (x2 : Int32), Wp_X0_allEnvies_4 cg cw cV Z x1 x2 → ∀ (ls : Array Slot) (H : Heap) (locs : List Loc), lv_has ls 4 [(0, .ref co), (1, .int x1), (2, .int x2)] → va_P (dC, dI) vwCl (kCake kI kA co ca cv cr cg cw cV) H → va_D A (kCake kI kA co ca cv cr cg cw cV) → va_S A s.heap H locs → W p l e ({ frames := 3, cells := 0, slots := 0, locals := 70 }) s m args below meth c H locs 0 0 Q (F0 m 4 ls []) := fun x1 x2 hv => hv (fun x1 x2 => ∀ (ls : Array Slot) (H : Heap) (locs : List Loc), lv_has ls 4 [(0, .ref co), (1, .int x1), (2, .int x2)] → va_P (dC, dI) vwCl (kCake kI kA co ca cv cr cg cw cV) H → va_D A (kCake kI kA co ca cv cr cg cw cV) → va_S A s.heap H locs → W p l e ({ frames := 3, cells := 0, slots := 0, locals := 70 }) s m args below meth c H locs 0 0 Q (F0 m 4 ls [])) (fun x1 x2 x3 => ∀ (ls : Array Slot) (H : Heap) (locs : List Loc), lv_has ls 4 [(0, .ref co), (1, .int x1), (2, .int x2), (3, .int x3)] → va_P (dC, dI) vwCl (kCake kI kA co ca cv cr cg cw cV) H → va_D A (kCake kI kA co ca cv cr cg cw cV) → va_S A s.heap H locs → W p l e ({ frames := 3, cells := 0, slots := 0, locals := 70 }) s m args below meth c H locs 0 0 Q (F0 m 14 ls [])) (fun J4 J14 q4 q14 => (key J4 J14 q4 q14).1) (fun J4 J14 q4 q14 => (key J4 J14 q4 q14).2)
  have hJ14 : ∀ (x1 : Int32) (x2 : Int32) (x3 : Int32), Wp_X0_allEnvies_14 cg cw cV Z x1 x2 x3 → ∀ (ls : Array Slot) (H : Heap) (locs : List Loc), lv_has ls 4 [(0, .ref co), (1, .int x1), (2, .int x2), (3, .int x3)] → va_P (dC, dI) vwCl (kCake kI kA co ca cv cr cg cw cV) H → va_D A (kCake kI kA co ca cv cr cg cw cV) → va_S A s.heap H locs → W p l e ({ frames := 3, cells := 0, slots := 0, locals := 70 }) s m args below meth c H locs 0 0 Q (F0 m 14 ls []) := fun x1 x2 x3 hv => hv (fun x1 x2 => ∀ (ls : Array Slot) (H : Heap) (locs : List Loc), lv_has ls 4 [(0, .ref co), (1, .int x1), (2, .int x2)] → va_P (dC, dI) vwCl (kCake kI kA co ca cv cr cg cw cV) H → va_D A (kCake kI kA co ca cv cr cg cw cV) → va_S A s.heap H locs → W p l e ({ frames := 3, cells := 0, slots := 0, locals := 70 }) s m args below meth c H locs 0 0 Q (F0 m 4 ls [])) (fun x1 x2 x3 => ∀ (ls : Array Slot) (H : Heap) (locs : List Loc), lv_has ls 4 [(0, .ref co), (1, .int x1), (2, .int x2), (3, .int x3)] → va_P (dC, dI) vwCl (kCake kI kA co ca cv cr cg cw cV) H → va_D A (kCake kI kA co ca cv cr cg cw cV) → va_S A s.heap H locs → W p l e ({ frames := 3, cells := 0, slots := 0, locals := 70 }) s m args below meth c H locs 0 0 Q (F0 m 14 ls [])) (fun J4 J14 q4 q14 => (key J4 J14 q4 q14).1) (fun J4 J14 q4 q14 => (key J4 J14 q4 q14).2)
  unfold Wp_X0_allEnvies at hw
  refine lv_iconst (v := (0 : Int32)) hx hb dX0_allEnvies_0 (by decide) ?_
  refine lv_istore_n (lv' := [(1, .int (0 : Int32)), (0, .ref co)]) hx hb dX0_allEnvies_1 rfl hl (by decide) rfl (fun ls hl => ?_)
  refine lv_iconst (v := (0 : Int32)) hx hb dX0_allEnvies_2 (by decide) ?_
  refine lv_istore_n (lv' := [(2, .int (0 : Int32)), (1, .int (0 : Int32)), (0, .ref co)]) hx hb dX0_allEnvies_3 rfl hl (by decide) rfl (fun ls hl => ?_)
  exact hJ4 (0 : Int32) (0 : Int32) hw ls _ _ (lv_sub hl [2, 1, 0] rfl) hP hD hS
-- CakeMarks$Cake.contentGuests()I
def B_X0_contentGuests_4 (cg : Int32) (cw : Nat → Int32) (cV : Nat → Nat → Int32) (Z : Int32 → Prop) (J4 : Int32 → Int32 → Prop) (x1 : Int32) (x2 : Int32) : Prop := ((cg ≤ x2 → (Z x1)) ∧ (¬ cg ≤ x2 → (Wp_X0_total cV x2 (fun r_2 => ((r_2 ≤ (0 : Int32) → (J4 x1 (x2 + (1 : Int32)))) ∧ (¬ r_2 ≤ (0 : Int32) → (Wp_X0_worth cw cV x2 x2 (fun r_4 => (((r_4 * cg) < r_2 → (J4 x1 (x2 + (1 : Int32)))) ∧ (¬ (r_4 * cg) < r_2 → (J4 (x1 + (1 : Int32)) (x2 + (1 : Int32)))))))))))))
def Wp_X0_contentGuests_4 (cg : Int32) (cw : Nat → Int32) (cV : Nat → Nat → Int32) (Z : Int32 → Prop) (x1 : Int32) (x2 : Int32) : Prop := ∀ (I4 : Int32 → Int32 → Prop), (∀ (J4 : Int32 → Int32 → Prop), (∀ (x1 : Int32) (x2 : Int32), J4 x1 x2 → I4 x1 x2) → ∀ (x1 : Int32) (x2 : Int32), B_X0_contentGuests_4 cg cw cV Z J4 x1 x2 → I4 x1 x2) → I4 x1 x2
theorem F_X0_contentGuests_4 (cg : Int32) (cw : Nat → Int32) (cV : Nat → Nat → Int32) (Z : Int32 → Prop) (x1 : Int32) (x2 : Int32) (h : B_X0_contentGuests_4 cg cw cV Z (Wp_X0_contentGuests_4 cg cw cV Z) x1 x2) : Wp_X0_contentGuests_4 cg cw cV Z x1 x2 := fun I4 h4 => h4 _ (fun x1 x2 hx => hx I4 h4) x1 x2 h
def Wp_X0_contentGuests (cg : Int32) (cw : Nat → Int32) (cV : Nat → Nat → Int32) (Z : Int32 → Prop) : Prop := ((Wp_X0_contentGuests_4 cg cw cV Z) (0 : Int32) (0 : Int32))
theorem in_X0_contentGuests_X0 : ∀ w ∈ u_ws RX0 TX0 3, w ∈ wsX0_contentGuests := fun w h => List.mem_cons_of_mem _ (List.mem_append_right _ h)
set_option maxHeartbeats 20000000 in
set_option maxRecDepth 100000 in
theorem c_X0_contentGuests (l : Launch) (dC : Nat → ClassId) (dI : Nat → Nat → Nat) (kI kA kC : ClassId) (co : Nat) (ca : Nat) (cv : Nat) (cr : Nat → Nat) (sz : Nat) (cg : Int32) (cw : Nat → Int32) (cV : Nat → Nat → Int32) (Z : Int32 → Prop) (hw : Wp_X0_contentGuests cg cw cV Z) : zI l yX0_contentGuests wsX0_contentGuests ({ frames := 2, cells := 0, slots := 0, locals := 48 }) dC dI kI kA kC sz 0 0 [.ref co] (kCake kI kA co ca cv cr cg cw cV) (fun (r : Int32) (u : Unit) => Z r ) (fun (u : Unit) => (kCake kI kA co ca cv cr cg cw cV)) := by
  refine zI.of (cc := cX0_contentGuests) (maxL := 4) (ty := .int) (by decide) rfl (Nat.le_of_ble_eq_true rfl) (Or.inl rfl) ?_
  intro p e s m args below meth c A Q C0 hret ls hl
  obtain ⟨hx, hb, hr, hml, hts, hown, hin, hP, hK, hD, hA, hS⟩ := C0
  have hown : s.vm.findClass RX0 = some m.cls := hown
  have hl : lv_has ls 4 [(0, .ref co)] := hl
  have key : ∀ (J4 : Int32 → Int32 → Prop) (hJ4 : ∀ (x1 : Int32) (x2 : Int32), J4 x1 x2 → ∀ (ls : Array Slot) (H : Heap) (locs : List Loc), lv_has ls 4 [(0, .ref co), (1, .int x1), (2, .int x2)] → va_P (dC, dI) vwCl (kCake kI kA co ca cv cr cg cw cV) H → va_D A (kCake kI kA co ca cv cr cg cw cV) → va_S A s.heap H locs → W p l e ({ frames := 2, cells := 0, slots := 0, locals := 48 }) s m args below meth c H locs 0 0 Q (F0 m 4 ls [])), (∀ (x1 : Int32) (x2 : Int32), B_X0_contentGuests_4 cg cw cV Z J4 x1 x2 → ∀ (ls : Array Slot) (H : Heap) (locs : List Loc), lv_has ls 4 [(0, .ref co), (1, .int x1), (2, .int x2)] → va_P (dC, dI) vwCl (kCake kI kA co ca cv cr cg cw cV) H → va_D A (kCake kI kA co ca cv cr cg cw cV) → va_S A s.heap H locs → W p l e ({ frames := 2, cells := 0, slots := 0, locals := 48 }) s m args below meth c H locs 0 0 Q (F0 m 4 ls [])) := by
    intro J4 hJ4
    · intro x1 x2 hw ls H locs hl hP hD hS
      unfold B_X0_contentGuests_4 at hw
      refine lv_iload_n hx hb dX0_contentGuests_4 rfl (lv_at hl 2 rfl) ?_
      refine lv_aload_n hx hb dX0_contentGuests_5 rfl (lv_at hl 0 rfl) ?_
      refine va_get (D := (dC, dI)) (ci := 0) (v := .int cg) (C := RX0) (T := TX0) (N := 3) hx hb hts in_X0_contentGuests_X0 hown hK hP 0 rfl rfl 0 (by decide) (hts (.fieldLink RX0 9 "CakeMarks$Cake" "guests" "I") (List.mem_of_getElem? (i := 1) rfl)) (fun _ h9 => h9) rfl dX0_contentGuests_6 ?_
      refine lv_icmp_ge (tgt := 46) hx hb dX0_contentGuests_9 (by decide) (fun c_1 => ?_) (fun c_1 => ?_)
      · have hw := hw.1 c_1
        refine lv_iload_n hx hb dX0_contentGuests_46 rfl (lv_at hl 1 rfl) ?_
        exact hret 47 x1 () _ _ _ (fun h => absurd h (by decide)) hw hP hD hS dX0_contentGuests_47
      · have hw := hw.2 c_1
        refine lv_aload_n hx hb dX0_contentGuests_12 rfl (lv_at hl 0 rfl) ?_
        refine lv_iload_n hx hb dX0_contentGuests_13 rfl (lv_at hl 2 rfl) ?_
        refine zcallI (ci := 0) (q0 := 0) (As := [.int x2]) (rest := []) (wr := ([] : va_W)) (Wn := fun u => (kCake kI kA co ca cv cr cg cw cV)) ⟨hx, hb, hml, hown, hts⟩ (c_X0_total l dC dI kI kA kC co ca cv cr _ cg cw cV x2 _ hw) (cwV 1 hts gX0_contentGuests_X0_total rfl rfl rfl (by decide +kernel) ⟨Nat.le_of_ble_eq_true rfl, Nat.le_of_ble_eq_true rfl⟩) hK hP hD hS hA [0, 1, 2, 3, 4, 5, 6] [] [0, 1, 2, 3, 4, 5, 6] rfl rfl (by decide) (by decide) (by decide) (fun u => rfl) (by decide) rfl rfl rfl rfl hl.1 rfl (Nat.le_of_ble_eq_true rfl) dX0_contentGuests_14 ⟨Nat.zero_le _, Nat.zero_le _⟩ (fun r_2 u H locs hw hP hD hS => ?_)
        have hP : va_P (dC, dI) vwCl (kCake kI kA co ca cv cr cg cw cV) H := hP
        have hD : va_D A (kCake kI kA co ca cv cr cg cw cV) := hD
        refine lv_istore_n (lv' := [(3, .int r_2), (0, .ref co), (1, .int x1), (2, .int x2)]) hx hb dX0_contentGuests_17 rfl hl (by decide) rfl (fun ls hl => ?_)
        refine lv_iload_n hx hb dX0_contentGuests_18 rfl (lv_at hl 0 rfl) ?_
        refine lv_if_le (tgt := 40) hx hb dX0_contentGuests_19 (by decide) (fun c_3 => ?_) (fun c_3 => ?_)
        · have hw := hw.1 c_3
          refine lv_iinc (v := (x2 + (1 : Int32))) (lv' := [(2, .int (x2 + (1 : Int32))), (3, .int r_2), (0, .ref co), (1, .int x1)]) hx hb dX0_contentGuests_40 hl (k := 3) rfl (by first | rfl | decide) (by decide) rfl (fun ls hl => ?_)
          refine lv_goto (tgt := 4) hx hb dX0_contentGuests_43 (by decide) ?_
          exact hJ4 x1 (x2 + (1 : Int32)) hw ls _ _ (lv_sub hl [2, 3, 0] rfl) hP hD hS
        · have hw := hw.2 c_3
          refine lv_aload_n hx hb dX0_contentGuests_22 rfl (lv_at hl 1 rfl) ?_
          refine lv_iload_n hx hb dX0_contentGuests_23 rfl (lv_at hl 3 rfl) ?_
          refine lv_iload_n hx hb dX0_contentGuests_24 rfl (lv_at hl 3 rfl) ?_
          refine zcallI (ci := 0) (q0 := 0) (As := [.int x2, .int x2]) (rest := []) (wr := ([] : va_W)) (Wn := fun u => (kCake kI kA co ca cv cr cg cw cV)) ⟨hx, hb, hml, hown, hts⟩ (c_X0_worth l dC dI kI kA kC co ca cv cr _ cg cw cV x2 x2 _ hw) (cwV 2 hts gX0_contentGuests_X0_worth rfl rfl rfl (by decide +kernel) ⟨Nat.le_of_ble_eq_true rfl, Nat.le_of_ble_eq_true rfl⟩) hK hP hD hS hA [0, 1, 2, 3, 4, 5, 6] [] [0, 1, 2, 3, 4, 5, 6] rfl rfl (by decide) (by decide) (by decide) (fun u => rfl) (by decide) rfl rfl rfl rfl hl.1 rfl (Nat.le_of_ble_eq_true rfl) dX0_contentGuests_25 ⟨Nat.zero_le _, Nat.zero_le _⟩ (fun r_4 u H locs hw hP hD hS => ?_)
          have hP : va_P (dC, dI) vwCl (kCake kI kA co ca cv cr cg cw cV) H := hP
          have hD : va_D A (kCake kI kA co ca cv cr cg cw cV) := hD
          refine lv_aload_n hx hb dX0_contentGuests_28 rfl (lv_at hl 1 rfl) ?_
          refine va_get (D := (dC, dI)) (ci := 0) (v := .int cg) (C := RX0) (T := TX0) (N := 3) hx hb hts in_X0_contentGuests_X0 hown hK hP 0 rfl rfl 0 (by decide) (hts (.fieldLink RX0 9 "CakeMarks$Cake" "guests" "I") (List.mem_of_getElem? (i := 1) rfl)) (fun _ h9 => h9) rfl dX0_contentGuests_29 ?_
          refine lv_imul hx hb dX0_contentGuests_32 ?_
          refine lv_iload_n hx hb dX0_contentGuests_33 rfl (lv_at hl 0 rfl) ?_
          refine lv_icmp_lt (tgt := 40) hx hb dX0_contentGuests_34 (by decide) (fun c_5 => ?_) (fun c_5 => ?_)
          · have hw := hw.1 c_5
            refine lv_iinc (v := (x2 + (1 : Int32))) (lv' := [(2, .int (x2 + (1 : Int32))), (3, .int r_2), (0, .ref co), (1, .int x1)]) hx hb dX0_contentGuests_40 hl (k := 3) rfl (by first | rfl | decide) (by decide) rfl (fun ls hl => ?_)
            refine lv_goto (tgt := 4) hx hb dX0_contentGuests_43 (by decide) ?_
            exact hJ4 x1 (x2 + (1 : Int32)) hw ls _ _ (lv_sub hl [2, 3, 0] rfl) hP hD hS
          · have hw := hw.2 c_5
            refine lv_iinc (v := (x1 + (1 : Int32))) (lv' := [(1, .int (x1 + (1 : Int32))), (3, .int r_2), (0, .ref co), (2, .int x2)]) hx hb dX0_contentGuests_37 hl (k := 2) rfl (by first | rfl | decide) (by decide) rfl (fun ls hl => ?_)
            refine lv_iinc (v := (x2 + (1 : Int32))) (lv' := [(2, .int (x2 + (1 : Int32))), (1, .int (x1 + (1 : Int32))), (3, .int r_2), (0, .ref co)]) hx hb dX0_contentGuests_40 hl (k := 3) rfl (by first | rfl | decide) (by decide) rfl (fun ls hl => ?_)
            refine lv_goto (tgt := 4) hx hb dX0_contentGuests_43 (by decide) ?_
            exact hJ4 (x1 + (1 : Int32)) (x2 + (1 : Int32)) hw ls _ _ (lv_sub hl [3, 1, 0] rfl) hP hD hS
  have hJ4 : ∀ (x1 : Int32) (x2 : Int32), Wp_X0_contentGuests_4 cg cw cV Z x1 x2 → ∀ (ls : Array Slot) (H : Heap) (locs : List Loc), lv_has ls 4 [(0, .ref co), (1, .int x1), (2, .int x2)] → va_P (dC, dI) vwCl (kCake kI kA co ca cv cr cg cw cV) H → va_D A (kCake kI kA co ca cv cr cg cw cV) → va_S A s.heap H locs → W p l e ({ frames := 2, cells := 0, slots := 0, locals := 48 }) s m args below meth c H locs 0 0 Q (F0 m 4 ls []) := fun x1 x2 hv => hv (fun x1 x2 => ∀ (ls : Array Slot) (H : Heap) (locs : List Loc), lv_has ls 4 [(0, .ref co), (1, .int x1), (2, .int x2)] → va_P (dC, dI) vwCl (kCake kI kA co ca cv cr cg cw cV) H → va_D A (kCake kI kA co ca cv cr cg cw cV) → va_S A s.heap H locs → W p l e ({ frames := 2, cells := 0, slots := 0, locals := 48 }) s m args below meth c H locs 0 0 Q (F0 m 4 ls [])) (fun J4 q4 => (key J4 q4))
  unfold Wp_X0_contentGuests at hw
  refine lv_iconst (v := (0 : Int32)) hx hb dX0_contentGuests_0 (by decide) ?_
  refine lv_istore_n (lv' := [(1, .int (0 : Int32)), (0, .ref co)]) hx hb dX0_contentGuests_1 rfl hl (by decide) rfl (fun ls hl => ?_)
  refine lv_iconst (v := (0 : Int32)) hx hb dX0_contentGuests_2 (by decide) ?_
  refine lv_istore_n (lv' := [(2, .int (0 : Int32)), (1, .int (0 : Int32)), (0, .ref co)]) hx hb dX0_contentGuests_3 rfl hl (by decide) rfl (fun ls hl => ?_)
  exact hJ4 (0 : Int32) (0 : Int32) hw ls _ _ (lv_sub hl [2, 1, 0] rfl) hP hD hS
