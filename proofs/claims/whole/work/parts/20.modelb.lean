-- CakeMarksModel.reads()I
def K_X7_reads_197 (uX : Nat → Int32) (ul : Int32) (Z : Int32 → (Nat → Int32) → Prop) (J6 : Int32 → Int32 → Int32 → (Nat → Int32) → Prop) (J149 : Int32 → Int32 → Int32 → Int32 → Int32 → (Nat → Int32) → Prop) (x1 : Int32) (x2 : Int32) (uT : Nat → Int32) (t0 : Int32) : Prop := ((t0 = (0 : Int32) → (J6 (x1 + (0 : Int32)) x2 t0 uT)) ∧ (¬ t0 = (0 : Int32) → (J6 (x1 + (1 : Int32)) x2 t0 uT)))
def K_X7_reads_123 (uX : Nat → Int32) (ul : Int32) (Z : Int32 → (Nat → Int32) → Prop) (J6 : Int32 → Int32 → Int32 → (Nat → Int32) → Prop) (J149 : Int32 → Int32 → Int32 → Int32 → Int32 → (Nat → Int32) → Prop) (x1 : Int32) (x2 : Int32) (x4 : Int32) (x5 : Int32) (x6 : Int32) (uT : Nat → Int32) : Prop := (Wp_X7_isDigit uX ul x1 (0 : Int32) (fun r_22 => ((r_22 = (0 : Int32) → ((x5 ≤ ((24 : Int32) - x2) → (J149 x1 x2 x4 x5 (0 : Int32) uT)) ∧ (¬ x5 ≤ ((24 : Int32) - x2) → (Z x6 uT)))) ∧ (¬ r_22 = (0 : Int32) → (Z x1 uT)))))
def B_X7_reads_6 (uX : Nat → Int32) (ul : Int32) (Z : Int32 → (Nat → Int32) → Prop) (J6 : Int32 → Int32 → Int32 → (Nat → Int32) → Prop) (J149 : Int32 → Int32 → Int32 → Int32 → Int32 → (Nat → Int32) → Prop) (x1 : Int32) (x2 : Int32) (x3 : Int32) (uT : Nat → Int32) : Prop := ((x3 = (0 : Int32) → ((x1 < ul → (Z x1 uT)) ∧ (¬ x1 < ul → (((24 : Int32) ≤ x2 → (Z (-9 : Int32) uT)) ∧ (¬ (24 : Int32) ≤ x2 → (Z x1 uT)))))) ∧ (¬ x3 = (0 : Int32) → (Wp_X7_isDigit uX ul x1 (0 : Int32) (fun r_4 => ((r_4 = (0 : Int32) → (Z x1 uT)) ∧ (¬ r_4 = (0 : Int32) → ((¬ x2 = (24 : Int32) → (vp_in x1 60 ∧ ((ul ≤ (x1 + (1 : Int32)) → (J149 (x1 + (1 : Int32)) x2 ((uX x1.toNatClampNeg) - (48 : Int32)) (1 : Int32) (0 : Int32) uT)) ∧ (¬ ul ≤ (x1 + (1 : Int32)) → (vp_in (x1 + (1 : Int32)) 60 ∧ ((¬ (uX (x1 + (1 : Int32)).toNatClampNeg) = (120 : Int32) → (J149 (x1 + (1 : Int32)) x2 ((uX x1.toNatClampNeg) - (48 : Int32)) (1 : Int32) (0 : Int32) uT)) ∧ ((uX (x1 + (1 : Int32)).toNatClampNeg) = (120 : Int32) → (Wp_X7_isDigit uX ul ((x1 + (1 : Int32)) + (1 : Int32)) (1 : Int32) (fun r_11 => ((¬ r_11 = (0 : Int32) → (vp_in ((x1 + (1 : Int32)) + (1 : Int32)) 60 ∧ (Wp_X7_isDigit uX ul (((x1 + (1 : Int32)) + (1 : Int32)) + (1 : Int32)) (0 : Int32) (fun r_14 => ((r_14 = (0 : Int32) → (K_X7_reads_123 uX ul Z J6 J149 (((x1 + (1 : Int32)) + (1 : Int32)) + (1 : Int32)) x2 ((uX x1.toNatClampNeg) - (48 : Int32)) ((uX ((x1 + (1 : Int32)) + (1 : Int32)).toNatClampNeg) - (48 : Int32)) ((x1 + (1 : Int32)) + (1 : Int32)) uT)) ∧ (¬ r_14 = (0 : Int32) → (vp_in (((x1 + (1 : Int32)) + (1 : Int32)) + (1 : Int32)) 60 ∧ (K_X7_reads_123 uX ul Z J6 J149 ((((x1 + (1 : Int32)) + (1 : Int32)) + (1 : Int32)) + (1 : Int32)) x2 ((uX x1.toNatClampNeg) - (48 : Int32)) ((((10 : Int32) * ((uX ((x1 + (1 : Int32)) + (1 : Int32)).toNatClampNeg) - (48 : Int32))) + (uX (((x1 + (1 : Int32)) + (1 : Int32)) + (1 : Int32)).toNatClampNeg)) - (48 : Int32)) ((x1 + (1 : Int32)) + (1 : Int32)) uT)))))))) ∧ (r_11 = (0 : Int32) → (Z ((x1 + (1 : Int32)) + (1 : Int32)) uT)))))))))))) ∧ (x2 = (24 : Int32) → (Z x1 uT)))))))))
def B_X7_reads_149 (uX : Nat → Int32) (ul : Int32) (Z : Int32 → (Nat → Int32) → Prop) (J6 : Int32 → Int32 → Int32 → (Nat → Int32) → Prop) (J149 : Int32 → Int32 → Int32 → Int32 → Int32 → (Nat → Int32) → Prop) (x1 : Int32) (x2 : Int32) (x4 : Int32) (x5 : Int32) (x6 : Int32) (uT : Nat → Int32) : Prop := ((x5 ≤ x6 → ((ul ≤ x1 → (K_X7_reads_197 uX ul Z J6 J149 x1 x2 uT (0 : Int32))) ∧ (¬ ul ≤ x1 → (vp_in x1 60 ∧ ((¬ (uX x1.toNatClampNeg) = (44 : Int32) → (K_X7_reads_197 uX ul Z J6 J149 x1 x2 uT (0 : Int32))) ∧ ((uX x1.toNatClampNeg) = (44 : Int32) → (K_X7_reads_197 uX ul Z J6 J149 x1 x2 uT (1 : Int32)))))))) ∧ (¬ x5 ≤ x6 → (vp_in x2 24 ∧ (J149 x1 (x2 + (1 : Int32)) x4 x5 (x6 + (1 : Int32)) (upd uT x2.toNatClampNeg x4)))))
def Wp_X7_reads_6 (uX : Nat → Int32) (ul : Int32) (Z : Int32 → (Nat → Int32) → Prop) (x1 : Int32) (x2 : Int32) (x3 : Int32) (uT : Nat → Int32) : Prop := ∀ (I6 : Int32 → Int32 → Int32 → (Nat → Int32) → Prop) (I149 : Int32 → Int32 → Int32 → Int32 → Int32 → (Nat → Int32) → Prop), (∀ (J6 : Int32 → Int32 → Int32 → (Nat → Int32) → Prop) (J149 : Int32 → Int32 → Int32 → Int32 → Int32 → (Nat → Int32) → Prop), (∀ (x1 : Int32) (x2 : Int32) (x3 : Int32) (uT : Nat → Int32), J6 x1 x2 x3 uT → I6 x1 x2 x3 uT) → (∀ (x1 : Int32) (x2 : Int32) (x4 : Int32) (x5 : Int32) (x6 : Int32) (uT : Nat → Int32), J149 x1 x2 x4 x5 x6 uT → I149 x1 x2 x4 x5 x6 uT) → ∀ (x1 : Int32) (x2 : Int32) (x3 : Int32) (uT : Nat → Int32), B_X7_reads_6 uX ul Z J6 J149 x1 x2 x3 uT → I6 x1 x2 x3 uT) → (∀ (J6 : Int32 → Int32 → Int32 → (Nat → Int32) → Prop) (J149 : Int32 → Int32 → Int32 → Int32 → Int32 → (Nat → Int32) → Prop), (∀ (x1 : Int32) (x2 : Int32) (x3 : Int32) (uT : Nat → Int32), J6 x1 x2 x3 uT → I6 x1 x2 x3 uT) → (∀ (x1 : Int32) (x2 : Int32) (x4 : Int32) (x5 : Int32) (x6 : Int32) (uT : Nat → Int32), J149 x1 x2 x4 x5 x6 uT → I149 x1 x2 x4 x5 x6 uT) → ∀ (x1 : Int32) (x2 : Int32) (x4 : Int32) (x5 : Int32) (x6 : Int32) (uT : Nat → Int32), B_X7_reads_149 uX ul Z J6 J149 x1 x2 x4 x5 x6 uT → I149 x1 x2 x4 x5 x6 uT) → I6 x1 x2 x3 uT
def Wp_X7_reads_149 (uX : Nat → Int32) (ul : Int32) (Z : Int32 → (Nat → Int32) → Prop) (x1 : Int32) (x2 : Int32) (x4 : Int32) (x5 : Int32) (x6 : Int32) (uT : Nat → Int32) : Prop := ∀ (I6 : Int32 → Int32 → Int32 → (Nat → Int32) → Prop) (I149 : Int32 → Int32 → Int32 → Int32 → Int32 → (Nat → Int32) → Prop), (∀ (J6 : Int32 → Int32 → Int32 → (Nat → Int32) → Prop) (J149 : Int32 → Int32 → Int32 → Int32 → Int32 → (Nat → Int32) → Prop), (∀ (x1 : Int32) (x2 : Int32) (x3 : Int32) (uT : Nat → Int32), J6 x1 x2 x3 uT → I6 x1 x2 x3 uT) → (∀ (x1 : Int32) (x2 : Int32) (x4 : Int32) (x5 : Int32) (x6 : Int32) (uT : Nat → Int32), J149 x1 x2 x4 x5 x6 uT → I149 x1 x2 x4 x5 x6 uT) → ∀ (x1 : Int32) (x2 : Int32) (x3 : Int32) (uT : Nat → Int32), B_X7_reads_6 uX ul Z J6 J149 x1 x2 x3 uT → I6 x1 x2 x3 uT) → (∀ (J6 : Int32 → Int32 → Int32 → (Nat → Int32) → Prop) (J149 : Int32 → Int32 → Int32 → Int32 → Int32 → (Nat → Int32) → Prop), (∀ (x1 : Int32) (x2 : Int32) (x3 : Int32) (uT : Nat → Int32), J6 x1 x2 x3 uT → I6 x1 x2 x3 uT) → (∀ (x1 : Int32) (x2 : Int32) (x4 : Int32) (x5 : Int32) (x6 : Int32) (uT : Nat → Int32), J149 x1 x2 x4 x5 x6 uT → I149 x1 x2 x4 x5 x6 uT) → ∀ (x1 : Int32) (x2 : Int32) (x4 : Int32) (x5 : Int32) (x6 : Int32) (uT : Nat → Int32), B_X7_reads_149 uX ul Z J6 J149 x1 x2 x4 x5 x6 uT → I149 x1 x2 x4 x5 x6 uT) → I149 x1 x2 x4 x5 x6 uT
theorem F_X7_reads_6 (uX : Nat → Int32) (ul : Int32) (Z : Int32 → (Nat → Int32) → Prop) (x1 : Int32) (x2 : Int32) (x3 : Int32) (uT : Nat → Int32) (h : B_X7_reads_6 uX ul Z (Wp_X7_reads_6 uX ul Z) (Wp_X7_reads_149 uX ul Z) x1 x2 x3 uT) : Wp_X7_reads_6 uX ul Z x1 x2 x3 uT := fun I6 I149 h6 h149 => h6 _ _ (fun x1 x2 x3 uT hx => hx I6 I149 h6 h149) (fun x1 x2 x4 x5 x6 uT hx => hx I6 I149 h6 h149) x1 x2 x3 uT h
theorem F_X7_reads_149 (uX : Nat → Int32) (ul : Int32) (Z : Int32 → (Nat → Int32) → Prop) (x1 : Int32) (x2 : Int32) (x4 : Int32) (x5 : Int32) (x6 : Int32) (uT : Nat → Int32) (h : B_X7_reads_149 uX ul Z (Wp_X7_reads_6 uX ul Z) (Wp_X7_reads_149 uX ul Z) x1 x2 x4 x5 x6 uT) : Wp_X7_reads_149 uX ul Z x1 x2 x4 x5 x6 uT := fun I6 I149 h6 h149 => h149 _ _ (fun x1 x2 x3 uT hx => hx I6 I149 h6 h149) (fun x1 x2 x4 x5 x6 uT hx => hx I6 I149 h6 h149) x1 x2 x4 x5 x6 uT h
def Wp_X7_reads (uX : Nat → Int32) (ul : Int32) (uT : Nat → Int32) (Z : Int32 → (Nat → Int32) → Prop) : Prop := ((Wp_X7_reads_6 uX ul Z) (0 : Int32) (0 : Int32) (1 : Int32) uT)
theorem in_X7_reads_X7 : ∀ w ∈ u_ws RX7 TX7 16, w ∈ wsX7_reads := fun w h => List.mem_cons_of_mem _ (List.mem_append_right _ h)
set_option maxHeartbeats 20000000 in
set_option maxRecDepth 100000 in
theorem c_X7_reads (l : Launch) (dC : Nat → ClassId) (dI : Nat → Nat → Nat) (kI kA kC : ClassId) (uo : Nat) (ur : Nat) (ux : Nat) (ut : Nat) (un : Nat) (uf : Nat) (uw : Nat) (ub : Nat) (sz : Nat) (uR : Nat → Int32) (uk : Int32) (uX : Nat → Int32) (ul : Int32) (uT : Nat → Int32) (ui : Int32) (uN : Nat → Int32) (uF : Nat → Int32) (uW : Nat → Int32) (uB : Nat → Int32) (ubw : Int32) (ubu : Int32) (ubd : Int32) (ucm : Int32) (ucw : Int32) (ucf : Int32) (Z : Int32 → (Nat → Int32) → Prop) (hw : Wp_X7_reads uX ul uT Z) : zI l yX7_reads wsX7_reads ({ frames := 2, cells := 0, slots := 0, locals := 44 }) dC dI kI kA kC sz 0 0 [.ref uo] (kModel kI uo ur ux ut un uf uw ub uR uk uX ul uT ui uN uF uW uB ubw ubu ubd ucm ucw ucf) (fun (r : Int32) (u : (Nat → Int32)) => Z r u) (fun (u : (Nat → Int32)) => (kModel kI uo ur ux ut un uf uw ub uR uk uX ul u ui uN uF uW uB ubw ubu ubd ucm ucw ucf)) := by
  refine zI.of (cc := cX7_reads) (maxL := 7) (ty := .int) (by decide) rfl (Nat.le_of_ble_eq_true rfl) (Or.inl rfl) ?_
  intro p e s m args below meth c A Q C0 hret ls hl
  obtain ⟨hx, hb, hr, hml, hts, hown, hin, hP, hK, hD, hA, hS⟩ := C0
  have hown : s.vm.findClass RX7 = some m.cls := hown
  have hl : lv_has ls 7 [(0, .ref uo)] := hl
  have k_197 : ∀ (J6 : Int32 → Int32 → Int32 → (Nat → Int32) → Prop) (J149 : Int32 → Int32 → Int32 → Int32 → Int32 → (Nat → Int32) → Prop) (hJ6 : ∀ (x1 : Int32) (x2 : Int32) (x3 : Int32) (uT : Nat → Int32), J6 x1 x2 x3 uT → ∀ (ls : Array Slot) (H : Heap) (locs : List Loc), lv_has ls 7 [(0, .ref uo), (1, .int x1), (2, .int x2), (3, .int x3)] → va_P (dC, dI) vwCl (kModel kI uo ur ux ut un uf uw ub uR uk uX ul uT ui uN uF uW uB ubw ubu ubd ucm ucw ucf) H → va_D A (kModel kI uo ur ux ut un uf uw ub uR uk uX ul uT ui uN uF uW uB ubw ubu ubd ucm ucw ucf) → va_S A s.heap H locs → W p l e ({ frames := 2, cells := 0, slots := 0, locals := 44 }) s m args below meth c H locs 0 0 Q (F0 m 6 ls [])) (hJ149 : ∀ (x1 : Int32) (x2 : Int32) (x4 : Int32) (x5 : Int32) (x6 : Int32) (uT : Nat → Int32), J149 x1 x2 x4 x5 x6 uT → ∀ (ls : Array Slot) (H : Heap) (locs : List Loc), lv_has ls 7 [(0, .ref uo), (1, .int x1), (2, .int x2), (4, .int x4), (5, .int x5), (6, .int x6)] → va_P (dC, dI) vwCl (kModel kI uo ur ux ut un uf uw ub uR uk uX ul uT ui uN uF uW uB ubw ubu ubd ucm ucw ucf) H → va_D A (kModel kI uo ur ux ut un uf uw ub uR uk uX ul uT ui uN uF uW uB ubw ubu ubd ucm ucw ucf) → va_S A s.heap H locs → W p l e ({ frames := 2, cells := 0, slots := 0, locals := 44 }) s m args below meth c H locs 0 0 Q (F0 m 149 ls [])), ∀ (x1 : Int32) (x2 : Int32) (uT : Nat → Int32) (t0 : Int32), K_X7_reads_197 uX ul Z J6 J149 x1 x2 uT t0 → ∀ (ls : Array Slot) (H : Heap) (locs : List Loc), lv_has ls 7 [(0, .ref uo), (1, .int x1), (2, .int x2)] → va_P (dC, dI) vwCl (kModel kI uo ur ux ut un uf uw ub uR uk uX ul uT ui uN uF uW uB ubw ubu ubd ucm ucw ucf) H → va_D A (kModel kI uo ur ux ut un uf uw ub uR uk uX ul uT ui uN uF uW uB ubw ubu ubd ucm ucw ucf) → va_S A s.heap H locs → W p l e ({ frames := 2, cells := 0, slots := 0, locals := 44 }) s m args below meth c H locs 0 0 Q (F0 m 197 ls [.int t0]) := by
    intro J6 J149 hJ6 hJ149 x1 x2 uT t0 hw ls H locs hl hP hD hS
    unfold K_X7_reads_197 at hw
    refine lv_istore_n (lv' := [(3, .int t0), (0, .ref uo), (1, .int x1), (2, .int x2)]) hx hb dX7_reads_197 rfl hl (by decide) rfl (fun ls hl => ?_)
    refine lv_iload_n hx hb dX7_reads_198 rfl (lv_at hl 2 rfl) ?_
    refine lv_iload_n hx hb dX7_reads_199 rfl (lv_at hl 0 rfl) ?_
    refine lv_if_eq (tgt := 207) hx hb dX7_reads_200 (by decide) (fun c_25 => ?_) (fun c_25 => ?_)
    · have hw := hw.1 c_25
      refine lv_iconst (v := (0 : Int32)) hx hb dX7_reads_207 (by decide) ?_
      refine lv_iadd hx hb dX7_reads_208 ?_
      refine lv_istore_n (lv' := [(1, .int (x1 + (0 : Int32))), (3, .int t0), (0, .ref uo), (2, .int x2)]) hx hb dX7_reads_209 rfl hl (by decide) rfl (fun ls hl => ?_)
      refine lv_goto (tgt := 6) hx hb dX7_reads_210 (by decide) ?_
      exact hJ6 (x1 + (0 : Int32)) x2 t0 uT hw ls _ _ (lv_sub hl [2, 0, 3, 1] rfl) hP hD hS
    · have hw := hw.2 c_25
      refine lv_iconst (v := (1 : Int32)) hx hb dX7_reads_203 (by decide) ?_
      refine lv_goto (tgt := 208) hx hb dX7_reads_204 (by decide) ?_
      refine lv_iadd hx hb dX7_reads_208 ?_
      refine lv_istore_n (lv' := [(1, .int (x1 + (1 : Int32))), (3, .int t0), (0, .ref uo), (2, .int x2)]) hx hb dX7_reads_209 rfl hl (by decide) rfl (fun ls hl => ?_)
      refine lv_goto (tgt := 6) hx hb dX7_reads_210 (by decide) ?_
      exact hJ6 (x1 + (1 : Int32)) x2 t0 uT hw ls _ _ (lv_sub hl [2, 0, 3, 1] rfl) hP hD hS
  have k_123 : ∀ (J6 : Int32 → Int32 → Int32 → (Nat → Int32) → Prop) (J149 : Int32 → Int32 → Int32 → Int32 → Int32 → (Nat → Int32) → Prop) (hJ6 : ∀ (x1 : Int32) (x2 : Int32) (x3 : Int32) (uT : Nat → Int32), J6 x1 x2 x3 uT → ∀ (ls : Array Slot) (H : Heap) (locs : List Loc), lv_has ls 7 [(0, .ref uo), (1, .int x1), (2, .int x2), (3, .int x3)] → va_P (dC, dI) vwCl (kModel kI uo ur ux ut un uf uw ub uR uk uX ul uT ui uN uF uW uB ubw ubu ubd ucm ucw ucf) H → va_D A (kModel kI uo ur ux ut un uf uw ub uR uk uX ul uT ui uN uF uW uB ubw ubu ubd ucm ucw ucf) → va_S A s.heap H locs → W p l e ({ frames := 2, cells := 0, slots := 0, locals := 44 }) s m args below meth c H locs 0 0 Q (F0 m 6 ls [])) (hJ149 : ∀ (x1 : Int32) (x2 : Int32) (x4 : Int32) (x5 : Int32) (x6 : Int32) (uT : Nat → Int32), J149 x1 x2 x4 x5 x6 uT → ∀ (ls : Array Slot) (H : Heap) (locs : List Loc), lv_has ls 7 [(0, .ref uo), (1, .int x1), (2, .int x2), (4, .int x4), (5, .int x5), (6, .int x6)] → va_P (dC, dI) vwCl (kModel kI uo ur ux ut un uf uw ub uR uk uX ul uT ui uN uF uW uB ubw ubu ubd ucm ucw ucf) H → va_D A (kModel kI uo ur ux ut un uf uw ub uR uk uX ul uT ui uN uF uW uB ubw ubu ubd ucm ucw ucf) → va_S A s.heap H locs → W p l e ({ frames := 2, cells := 0, slots := 0, locals := 44 }) s m args below meth c H locs 0 0 Q (F0 m 149 ls [])), ∀ (x1 : Int32) (x2 : Int32) (x4 : Int32) (x5 : Int32) (x6 : Int32) (uT : Nat → Int32), K_X7_reads_123 uX ul Z J6 J149 x1 x2 x4 x5 x6 uT → ∀ (ls : Array Slot) (H : Heap) (locs : List Loc), lv_has ls 7 [(0, .ref uo), (1, .int x1), (2, .int x2), (4, .int x4), (5, .int x5), (6, .int x6)] → va_P (dC, dI) vwCl (kModel kI uo ur ux ut un uf uw ub uR uk uX ul uT ui uN uF uW uB ubw ubu ubd ucm ucw ucf) H → va_D A (kModel kI uo ur ux ut un uf uw ub uR uk uX ul uT ui uN uF uW uB ubw ubu ubd ucm ucw ucf) → va_S A s.heap H locs → W p l e ({ frames := 2, cells := 0, slots := 0, locals := 44 }) s m args below meth c H locs 0 0 Q (F0 m 123 ls []) := by
    intro J6 J149 hJ6 hJ149 x1 x2 x4 x5 x6 uT hw ls H locs hl hP hD hS
    unfold K_X7_reads_123 at hw
    refine lv_aload_n hx hb dX7_reads_123 rfl (lv_at hl 0 rfl) ?_
    refine lv_iload_n hx hb dX7_reads_124 rfl (lv_at hl 1 rfl) ?_
    refine lv_iconst (v := (0 : Int32)) hx hb dX7_reads_125 (by decide) ?_
    refine zcallI (ci := 7) (q0 := 0) (As := [.int x1, .int (0 : Int32)]) (rest := []) (wr := ([] : va_W)) (Wn := fun u => (kModel kI uo ur ux ut un uf uw ub uR uk uX ul uT ui uN uF uW uB ubw ubu ubd ucm ucw ucf)) ⟨hx, hb, hml, hown, hts⟩ (c_X7_isDigit l dC dI kI kA kC uo ur ux ut un uf uw ub _ uR uk uX ul uT ui uN uF uW uB ubw ubu ubd ucm ucw ucf x1 (0 : Int32) _ hw) (cwV 2 hts gX7_reads_X7_isDigit rfl rfl rfl (by decide +kernel) ⟨Nat.le_of_ble_eq_true rfl, Nat.le_of_ble_eq_true rfl⟩) hK hP hD hS hA [0, 1, 2, 3, 4, 5, 6, 7] [] [0, 1, 2, 3, 4, 5, 6, 7] rfl rfl (by decide) (by decide) (by decide) (fun u => rfl) (by decide) rfl rfl rfl rfl hl.1 rfl (Nat.le_of_ble_eq_true rfl) dX7_reads_126 ⟨Nat.zero_le _, Nat.zero_le _⟩ (fun r_22 u H locs hw hP hD hS => ?_)
    have hP : va_P (dC, dI) vwCl (kModel kI uo ur ux ut un uf uw ub uR uk uX ul uT ui uN uF uW uB ubw ubu ubd ucm ucw ucf) H := hP
    have hD : va_D A (kModel kI uo ur ux ut un uf uw ub uR uk uX ul uT ui uN uF uW uB ubw ubu ubd ucm ucw ucf) := hD
    refine lv_if_eq (tgt := 134) hx hb dX7_reads_129 (by decide) (fun c_23 => ?_) (fun c_23 => ?_)
    · have hw := hw.1 c_23
      refine lv_iload hx hb dX7_reads_134 (lv_at hl 4 rfl) ?_
      refine lv_bipush (v := (24 : Int32)) hx hb dX7_reads_136 (by decide) ?_
      refine lv_iload_n hx hb dX7_reads_138 rfl (lv_at hl 2 rfl) ?_
      refine lv_isub hx hb dX7_reads_139 ?_
      refine lv_icmp_le (tgt := 146) hx hb dX7_reads_140 (by decide) (fun c_24 => ?_) (fun c_24 => ?_)
      · have hw := hw.1 c_24
        refine lv_iconst (v := (0 : Int32)) hx hb dX7_reads_146 (by decide) ?_
        refine lv_istore (lv' := [(6, .int (0 : Int32)), (0, .ref uo), (1, .int x1), (2, .int x2), (4, .int x4), (5, .int x5)]) hx hb dX7_reads_147 hl (by decide) rfl (fun ls hl => ?_)
        exact hJ149 x1 x2 x4 x5 (0 : Int32) uT hw ls _ _ (lv_sub hl [1, 2, 3, 4, 5, 0] rfl) hP hD hS
      · have hw := hw.2 c_24
        refine lv_iload hx hb dX7_reads_143 (lv_at hl 5 rfl) ?_
        exact hret 145 x6 uT _ _ _ (fun h => absurd h (by decide)) hw hP hD hS dX7_reads_145
    · have hw := hw.2 c_23
      refine lv_iload_n hx hb dX7_reads_132 rfl (lv_at hl 1 rfl) ?_
      exact hret 133 x1 uT _ _ _ (fun h => absurd h (by decide)) hw hP hD hS dX7_reads_133
  have key : ∀ (J6 : Int32 → Int32 → Int32 → (Nat → Int32) → Prop) (J149 : Int32 → Int32 → Int32 → Int32 → Int32 → (Nat → Int32) → Prop) (hJ6 : ∀ (x1 : Int32) (x2 : Int32) (x3 : Int32) (uT : Nat → Int32), J6 x1 x2 x3 uT → ∀ (ls : Array Slot) (H : Heap) (locs : List Loc), lv_has ls 7 [(0, .ref uo), (1, .int x1), (2, .int x2), (3, .int x3)] → va_P (dC, dI) vwCl (kModel kI uo ur ux ut un uf uw ub uR uk uX ul uT ui uN uF uW uB ubw ubu ubd ucm ucw ucf) H → va_D A (kModel kI uo ur ux ut un uf uw ub uR uk uX ul uT ui uN uF uW uB ubw ubu ubd ucm ucw ucf) → va_S A s.heap H locs → W p l e ({ frames := 2, cells := 0, slots := 0, locals := 44 }) s m args below meth c H locs 0 0 Q (F0 m 6 ls [])) (hJ149 : ∀ (x1 : Int32) (x2 : Int32) (x4 : Int32) (x5 : Int32) (x6 : Int32) (uT : Nat → Int32), J149 x1 x2 x4 x5 x6 uT → ∀ (ls : Array Slot) (H : Heap) (locs : List Loc), lv_has ls 7 [(0, .ref uo), (1, .int x1), (2, .int x2), (4, .int x4), (5, .int x5), (6, .int x6)] → va_P (dC, dI) vwCl (kModel kI uo ur ux ut un uf uw ub uR uk uX ul uT ui uN uF uW uB ubw ubu ubd ucm ucw ucf) H → va_D A (kModel kI uo ur ux ut un uf uw ub uR uk uX ul uT ui uN uF uW uB ubw ubu ubd ucm ucw ucf) → va_S A s.heap H locs → W p l e ({ frames := 2, cells := 0, slots := 0, locals := 44 }) s m args below meth c H locs 0 0 Q (F0 m 149 ls [])), (∀ (x1 : Int32) (x2 : Int32) (x3 : Int32) (uT : Nat → Int32), B_X7_reads_6 uX ul Z J6 J149 x1 x2 x3 uT → ∀ (ls : Array Slot) (H : Heap) (locs : List Loc), lv_has ls 7 [(0, .ref uo), (1, .int x1), (2, .int x2), (3, .int x3)] → va_P (dC, dI) vwCl (kModel kI uo ur ux ut un uf uw ub uR uk uX ul uT ui uN uF uW uB ubw ubu ubd ucm ucw ucf) H → va_D A (kModel kI uo ur ux ut un uf uw ub uR uk uX ul uT ui uN uF uW uB ubw ubu ubd ucm ucw ucf) → va_S A s.heap H locs → W p l e ({ frames := 2, cells := 0, slots := 0, locals := 44 }) s m args below meth c H locs 0 0 Q (F0 m 6 ls [])) ∧ (∀ (x1 : Int32) (x2 : Int32) (x4 : Int32) (x5 : Int32) (x6 : Int32) (uT : Nat → Int32), B_X7_reads_149 uX ul Z J6 J149 x1 x2 x4 x5 x6 uT → ∀ (ls : Array Slot) (H : Heap) (locs : List Loc), lv_has ls 7 [(0, .ref uo), (1, .int x1), (2, .int x2), (4, .int x4), (5, .int x5), (6, .int x6)] → va_P (dC, dI) vwCl (kModel kI uo ur ux ut un uf uw ub uR uk uX ul uT ui uN uF uW uB ubw ubu ubd ucm ucw ucf) H → va_D A (kModel kI uo ur ux ut un uf uw ub uR uk uX ul uT ui uN uF uW uB ubw ubu ubd ucm ucw ucf) → va_S A s.heap H locs → W p l e ({ frames := 2, cells := 0, slots := 0, locals := 44 }) s m args below meth c H locs 0 0 Q (F0 m 149 ls [])) := by
    intro J6 J149 hJ6 hJ149
    refine ⟨?_, ?_⟩
    · intro x1 x2 x3 uT hw ls H locs hl hP hD hS
      unfold B_X7_reads_6 at hw
      refine lv_iload_n hx hb dX7_reads_6 rfl (lv_at hl 3 rfl) ?_
      refine lv_if_eq (tgt := 213) hx hb dX7_reads_7 (by decide) (fun c_1 => ?_) (fun c_1 => ?_)
      · have hw := hw.1 c_1
        refine lv_iload_n hx hb dX7_reads_213 rfl (lv_at hl 1 rfl) ?_
        refine lv_aload_n hx hb dX7_reads_214 rfl (lv_at hl 0 rfl) ?_
        refine va_get (D := (dC, dI)) (ci := 7) (v := .int ul) (C := RX7) (T := TX7) (N := 16) hx hb hts in_X7_reads_X7 hown hK hP 0 rfl rfl 3 (by decide) (hts (.fieldLink RX7 69 "CakeMarksModel" "length" "I") (List.mem_of_getElem? (i := 2) rfl)) (fun _ h9 => h9) rfl dX7_reads_215 ?_
        refine lv_icmp_lt (tgt := 227) hx hb dX7_reads_218 (by decide) (fun c_2 => ?_) (fun c_2 => ?_)
        · have hw := hw.1 c_2
          refine lv_iload_n hx hb dX7_reads_227 rfl (lv_at hl 1 rfl) ?_
          refine lv_goto (tgt := 233) hx hb dX7_reads_228 (by decide) ?_
          exact hret 233 x1 uT _ _ _ (fun h => absurd h (by decide)) hw hP hD hS dX7_reads_233
        · have hw := hw.2 c_2
          refine lv_iload_n hx hb dX7_reads_221 rfl (lv_at hl 2 rfl) ?_
          refine lv_bipush (v := (24 : Int32)) hx hb dX7_reads_222 (by decide) ?_
          refine lv_icmp_ge (tgt := 231) hx hb dX7_reads_224 (by decide) (fun c_3 => ?_) (fun c_3 => ?_)
          · have hw := hw.1 c_3
            refine lv_bipush (v := (-9 : Int32)) hx hb dX7_reads_231 (by decide) ?_
            exact hret 233 (-9 : Int32) uT _ _ _ (fun h => absurd h (by decide)) hw hP hD hS dX7_reads_233
          · have hw := hw.2 c_3
            refine lv_iload_n hx hb dX7_reads_227 rfl (lv_at hl 1 rfl) ?_
            refine lv_goto (tgt := 233) hx hb dX7_reads_228 (by decide) ?_
            exact hret 233 x1 uT _ _ _ (fun h => absurd h (by decide)) hw hP hD hS dX7_reads_233
      · have hw := hw.2 c_1
        refine lv_aload_n hx hb dX7_reads_10 rfl (lv_at hl 0 rfl) ?_
        refine lv_iload_n hx hb dX7_reads_11 rfl (lv_at hl 1 rfl) ?_
        refine lv_iconst (v := (0 : Int32)) hx hb dX7_reads_12 (by decide) ?_
        refine zcallI (ci := 7) (q0 := 0) (As := [.int x1, .int (0 : Int32)]) (rest := []) (wr := ([] : va_W)) (Wn := fun u => (kModel kI uo ur ux ut un uf uw ub uR uk uX ul uT ui uN uF uW uB ubw ubu ubd ucm ucw ucf)) ⟨hx, hb, hml, hown, hts⟩ (c_X7_isDigit l dC dI kI kA kC uo ur ux ut un uf uw ub _ uR uk uX ul uT ui uN uF uW uB ubw ubu ubd ucm ucw ucf x1 (0 : Int32) _ hw) (cwV 2 hts gX7_reads_X7_isDigit rfl rfl rfl (by decide +kernel) ⟨Nat.le_of_ble_eq_true rfl, Nat.le_of_ble_eq_true rfl⟩) hK hP hD hS hA [0, 1, 2, 3, 4, 5, 6, 7] [] [0, 1, 2, 3, 4, 5, 6, 7] rfl rfl (by decide) (by decide) (by decide) (fun u => rfl) (by decide) rfl rfl rfl rfl hl.1 rfl (Nat.le_of_ble_eq_true rfl) dX7_reads_13 ⟨Nat.zero_le _, Nat.zero_le _⟩ (fun r_4 u H locs hw hP hD hS => ?_)
        have hP : va_P (dC, dI) vwCl (kModel kI uo ur ux ut un uf uw ub uR uk uX ul uT ui uN uF uW uB ubw ubu ubd ucm ucw ucf) H := hP
        have hD : va_D A (kModel kI uo ur ux ut un uf uw ub uR uk uX ul uT ui uN uF uW uB ubw ubu ubd ucm ucw ucf) := hD
        refine lv_if_eq (tgt := 25) hx hb dX7_reads_16 (by decide) (fun c_5 => ?_) (fun c_5 => ?_)
        · have hw := hw.1 c_5
          refine lv_iload_n hx hb dX7_reads_25 rfl (lv_at hl 1 rfl) ?_
          exact hret 26 x1 uT _ _ _ (fun h => absurd h (by decide)) hw hP hD hS dX7_reads_26
        · have hw := hw.2 c_5
          refine lv_iload_n hx hb dX7_reads_19 rfl (lv_at hl 2 rfl) ?_
          refine lv_bipush (v := (24 : Int32)) hx hb dX7_reads_20 (by decide) ?_
          refine lv_icmp_ne (tgt := 27) hx hb dX7_reads_22 (by decide) (fun c_6 => ?_) (fun c_6 => ?_)
          · have hw := hw.1 c_6
            refine lv_aload_n hx hb dX7_reads_27 rfl (lv_at hl 0 rfl) ?_
            refine va_get (D := (dC, dI)) (ci := 7) (v := .ref ux) (C := RX7) (T := TX7) (N := 16) hx hb hts in_X7_reads_X7 hown hK hP 0 rfl rfl 2 (by decide) (hts (.fieldLink RX7 13 "CakeMarksModel" "text" "[I") (List.mem_of_getElem? (i := 1) rfl)) (fun _ h9 => h9) rfl dX7_reads_28 ?_
            refine lv_iload_n hx hb dX7_reads_31 rfl (lv_at hl 1 rfl) ?_
            obtain ⟨h_7, hw⟩ := hw
            refine va_iald hx hb hK hP 2 0 rfl rfl h_7 dX7_reads_32 ?_
            refine lv_bipush (v := (48 : Int32)) hx hb dX7_reads_33 (by decide) ?_
            refine lv_isub hx hb dX7_reads_35 ?_
            refine lv_istore (lv' := [(4, .int ((uX x1.toNatClampNeg) - (48 : Int32))), (0, .ref uo), (1, .int x1), (2, .int x2), (3, .int x3)]) hx hb dX7_reads_36 hl (by decide) rfl (fun ls hl => ?_)
            refine lv_iconst (v := (1 : Int32)) hx hb dX7_reads_38 (by decide) ?_
            refine lv_istore (lv' := [(5, .int (1 : Int32)), (4, .int ((uX x1.toNatClampNeg) - (48 : Int32))), (0, .ref uo), (1, .int x1), (2, .int x2), (3, .int x3)]) hx hb dX7_reads_39 hl (by decide) rfl (fun ls hl => ?_)
            refine lv_iinc (v := (x1 + (1 : Int32))) (lv' := [(1, .int (x1 + (1 : Int32))), (5, .int (1 : Int32)), (4, .int ((uX x1.toNatClampNeg) - (48 : Int32))), (0, .ref uo), (2, .int x2), (3, .int x3)]) hx hb dX7_reads_41 hl (k := 3) rfl (by first | rfl | decide) (by decide) rfl (fun ls hl => ?_)
            refine lv_iload_n hx hb dX7_reads_44 rfl (lv_at hl 0 rfl) ?_
            refine lv_aload_n hx hb dX7_reads_45 rfl (lv_at hl 3 rfl) ?_
            refine va_get (D := (dC, dI)) (ci := 7) (v := .int ul) (C := RX7) (T := TX7) (N := 16) hx hb hts in_X7_reads_X7 hown hK hP 0 rfl rfl 3 (by decide) (hts (.fieldLink RX7 69 "CakeMarksModel" "length" "I") (List.mem_of_getElem? (i := 2) rfl)) (fun _ h9 => h9) rfl dX7_reads_46 ?_
            refine lv_icmp_ge (tgt := 146) hx hb dX7_reads_49 (by decide) (fun c_8 => ?_) (fun c_8 => ?_)
            · have hw := hw.1 c_8
              refine lv_iconst (v := (0 : Int32)) hx hb dX7_reads_146 (by decide) ?_
              refine lv_istore (lv' := [(6, .int (0 : Int32)), (1, .int (x1 + (1 : Int32))), (5, .int (1 : Int32)), (4, .int ((uX x1.toNatClampNeg) - (48 : Int32))), (0, .ref uo), (2, .int x2), (3, .int x3)]) hx hb dX7_reads_147 hl (by decide) rfl (fun ls hl => ?_)
              exact hJ149 (x1 + (1 : Int32)) x2 ((uX x1.toNatClampNeg) - (48 : Int32)) (1 : Int32) (0 : Int32) uT hw ls _ _ (lv_sub hl [4, 1, 5, 3, 2, 0] rfl) hP hD hS
            · have hw := hw.2 c_8
              refine lv_aload_n hx hb dX7_reads_52 rfl (lv_at hl 3 rfl) ?_
              refine va_get (D := (dC, dI)) (ci := 7) (v := .ref ux) (C := RX7) (T := TX7) (N := 16) hx hb hts in_X7_reads_X7 hown hK hP 0 rfl rfl 2 (by decide) (hts (.fieldLink RX7 13 "CakeMarksModel" "text" "[I") (List.mem_of_getElem? (i := 1) rfl)) (fun _ h9 => h9) rfl dX7_reads_53 ?_
              refine lv_iload_n hx hb dX7_reads_56 rfl (lv_at hl 0 rfl) ?_
              obtain ⟨h_9, hw⟩ := hw
              refine va_iald hx hb hK hP 2 0 rfl rfl h_9 dX7_reads_57 ?_
              refine lv_bipush (v := (120 : Int32)) hx hb dX7_reads_58 (by decide) ?_
              refine lv_icmp_ne (tgt := 146) hx hb dX7_reads_60 (by decide) (fun c_10 => ?_) (fun c_10 => ?_)
              · have hw := hw.1 c_10
                refine lv_iconst (v := (0 : Int32)) hx hb dX7_reads_146 (by decide) ?_
                refine lv_istore (lv' := [(6, .int (0 : Int32)), (1, .int (x1 + (1 : Int32))), (5, .int (1 : Int32)), (4, .int ((uX x1.toNatClampNeg) - (48 : Int32))), (0, .ref uo), (2, .int x2), (3, .int x3)]) hx hb dX7_reads_147 hl (by decide) rfl (fun ls hl => ?_)
                exact hJ149 (x1 + (1 : Int32)) x2 ((uX x1.toNatClampNeg) - (48 : Int32)) (1 : Int32) (0 : Int32) uT hw ls _ _ (lv_sub hl [4, 1, 5, 3, 2, 0] rfl) hP hD hS
              · have hw := hw.2 c_10
                refine lv_iinc (v := ((x1 + (1 : Int32)) + (1 : Int32))) (lv' := [(1, .int ((x1 + (1 : Int32)) + (1 : Int32))), (5, .int (1 : Int32)), (4, .int ((uX x1.toNatClampNeg) - (48 : Int32))), (0, .ref uo), (2, .int x2), (3, .int x3)]) hx hb dX7_reads_63 hl (k := 0) rfl (by first | rfl | decide) (by decide) rfl (fun ls hl => ?_)
                refine lv_aload_n hx hb dX7_reads_66 rfl (lv_at hl 3 rfl) ?_
                refine lv_iload_n hx hb dX7_reads_67 rfl (lv_at hl 0 rfl) ?_
                refine lv_iconst (v := (1 : Int32)) hx hb dX7_reads_68 (by decide) ?_
                refine zcallI (ci := 7) (q0 := 0) (As := [.int ((x1 + (1 : Int32)) + (1 : Int32)), .int (1 : Int32)]) (rest := []) (wr := ([] : va_W)) (Wn := fun u => (kModel kI uo ur ux ut un uf uw ub uR uk uX ul uT ui uN uF uW uB ubw ubu ubd ucm ucw ucf)) ⟨hx, hb, hml, hown, hts⟩ (c_X7_isDigit l dC dI kI kA kC uo ur ux ut un uf uw ub _ uR uk uX ul uT ui uN uF uW uB ubw ubu ubd ucm ucw ucf ((x1 + (1 : Int32)) + (1 : Int32)) (1 : Int32) _ hw) (cwV 2 hts gX7_reads_X7_isDigit rfl rfl rfl (by decide +kernel) ⟨Nat.le_of_ble_eq_true rfl, Nat.le_of_ble_eq_true rfl⟩) hK hP hD hS hA [0, 1, 2, 3, 4, 5, 6, 7] [] [0, 1, 2, 3, 4, 5, 6, 7] rfl rfl (by decide) (by decide) (by decide) (fun u => rfl) (by decide) rfl rfl rfl rfl hl.1 rfl (Nat.le_of_ble_eq_true rfl) dX7_reads_69 ⟨Nat.zero_le _, Nat.zero_le _⟩ (fun r_11 u H locs hw hP hD hS => ?_)
                have hP : va_P (dC, dI) vwCl (kModel kI uo ur ux ut un uf uw ub uR uk uX ul uT ui uN uF uW uB ubw ubu ubd ucm ucw ucf) H := hP
                have hD : va_D A (kModel kI uo ur ux ut un uf uw ub uR uk uX ul uT ui uN uF uW uB ubw ubu ubd ucm ucw ucf) := hD
                refine lv_if_ne (tgt := 77) hx hb dX7_reads_72 (by decide) (fun c_12 => ?_) (fun c_12 => ?_)
                · have hw := hw.1 c_12
                  refine lv_iload_n hx hb dX7_reads_77 rfl (lv_at hl 0 rfl) ?_
                  refine lv_istore (lv' := [(6, .int ((x1 + (1 : Int32)) + (1 : Int32))), (1, .int ((x1 + (1 : Int32)) + (1 : Int32))), (5, .int (1 : Int32)), (4, .int ((uX x1.toNatClampNeg) - (48 : Int32))), (0, .ref uo), (2, .int x2), (3, .int x3)]) hx hb dX7_reads_78 hl (by decide) rfl (fun ls hl => ?_)
                  refine lv_aload_n hx hb dX7_reads_80 rfl (lv_at hl 4 rfl) ?_
                  refine va_get (D := (dC, dI)) (ci := 7) (v := .ref ux) (C := RX7) (T := TX7) (N := 16) hx hb hts in_X7_reads_X7 hown hK hP 0 rfl rfl 2 (by decide) (hts (.fieldLink RX7 13 "CakeMarksModel" "text" "[I") (List.mem_of_getElem? (i := 1) rfl)) (fun _ h9 => h9) rfl dX7_reads_81 ?_
                  refine lv_iload_n hx hb dX7_reads_84 rfl (lv_at hl 1 rfl) ?_
                  obtain ⟨h_13, hw⟩ := hw
                  refine va_iald hx hb hK hP 2 0 rfl rfl h_13 dX7_reads_85 ?_
                  refine lv_bipush (v := (48 : Int32)) hx hb dX7_reads_86 (by decide) ?_
                  refine lv_isub hx hb dX7_reads_88 ?_
                  refine lv_istore (lv' := [(5, .int ((uX ((x1 + (1 : Int32)) + (1 : Int32)).toNatClampNeg) - (48 : Int32))), (6, .int ((x1 + (1 : Int32)) + (1 : Int32))), (1, .int ((x1 + (1 : Int32)) + (1 : Int32))), (4, .int ((uX x1.toNatClampNeg) - (48 : Int32))), (0, .ref uo), (2, .int x2), (3, .int x3)]) hx hb dX7_reads_89 hl (by decide) rfl (fun ls hl => ?_)
                  refine lv_iinc (v := (((x1 + (1 : Int32)) + (1 : Int32)) + (1 : Int32))) (lv' := [(1, .int (((x1 + (1 : Int32)) + (1 : Int32)) + (1 : Int32))), (5, .int ((uX ((x1 + (1 : Int32)) + (1 : Int32)).toNatClampNeg) - (48 : Int32))), (6, .int ((x1 + (1 : Int32)) + (1 : Int32))), (4, .int ((uX x1.toNatClampNeg) - (48 : Int32))), (0, .ref uo), (2, .int x2), (3, .int x3)]) hx hb dX7_reads_91 hl (k := 2) rfl (by first | rfl | decide) (by decide) rfl (fun ls hl => ?_)
                  refine lv_aload_n hx hb dX7_reads_94 rfl (lv_at hl 4 rfl) ?_
                  refine lv_iload_n hx hb dX7_reads_95 rfl (lv_at hl 0 rfl) ?_
                  refine lv_iconst (v := (0 : Int32)) hx hb dX7_reads_96 (by decide) ?_
                  refine zcallI (ci := 7) (q0 := 0) (As := [.int (((x1 + (1 : Int32)) + (1 : Int32)) + (1 : Int32)), .int (0 : Int32)]) (rest := []) (wr := ([] : va_W)) (Wn := fun u => (kModel kI uo ur ux ut un uf uw ub uR uk uX ul uT ui uN uF uW uB ubw ubu ubd ucm ucw ucf)) ⟨hx, hb, hml, hown, hts⟩ (c_X7_isDigit l dC dI kI kA kC uo ur ux ut un uf uw ub _ uR uk uX ul uT ui uN uF uW uB ubw ubu ubd ucm ucw ucf (((x1 + (1 : Int32)) + (1 : Int32)) + (1 : Int32)) (0 : Int32) _ hw) (cwV 2 hts gX7_reads_X7_isDigit rfl rfl rfl (by decide +kernel) ⟨Nat.le_of_ble_eq_true rfl, Nat.le_of_ble_eq_true rfl⟩) hK hP hD hS hA [0, 1, 2, 3, 4, 5, 6, 7] [] [0, 1, 2, 3, 4, 5, 6, 7] rfl rfl (by decide) (by decide) (by decide) (fun u => rfl) (by decide) rfl rfl rfl rfl hl.1 rfl (Nat.le_of_ble_eq_true rfl) dX7_reads_97 ⟨Nat.zero_le _, Nat.zero_le _⟩ (fun r_14 u H locs hw hP hD hS => ?_)
                  have hP : va_P (dC, dI) vwCl (kModel kI uo ur ux ut un uf uw ub uR uk uX ul uT ui uN uF uW uB ubw ubu ubd ucm ucw ucf) H := hP
                  have hD : va_D A (kModel kI uo ur ux ut un uf uw ub uR uk uX ul uT ui uN uF uW uB ubw ubu ubd ucm ucw ucf) := hD
                  refine lv_if_eq (tgt := 123) hx hb dX7_reads_100 (by decide) (fun c_15 => ?_) (fun c_15 => ?_)
                  · have hw := hw.1 c_15
                    exact k_123 _ _ hJ6 hJ149 (((x1 + (1 : Int32)) + (1 : Int32)) + (1 : Int32)) x2 ((uX x1.toNatClampNeg) - (48 : Int32)) ((uX ((x1 + (1 : Int32)) + (1 : Int32)).toNatClampNeg) - (48 : Int32)) ((x1 + (1 : Int32)) + (1 : Int32)) uT hw ls _ _ (lv_sub hl [4, 0, 5, 3, 1, 2] rfl) hP hD hS
                  · have hw := hw.2 c_15
                    refine lv_bipush (v := (10 : Int32)) hx hb dX7_reads_103 (by decide) ?_
                    refine lv_iload hx hb dX7_reads_105 (lv_at hl 1 rfl) ?_
                    refine lv_imul hx hb dX7_reads_107 ?_
                    refine lv_aload_n hx hb dX7_reads_108 rfl (lv_at hl 4 rfl) ?_
                    refine va_get (D := (dC, dI)) (ci := 7) (v := .ref ux) (C := RX7) (T := TX7) (N := 16) hx hb hts in_X7_reads_X7 hown hK hP 0 rfl rfl 2 (by decide) (hts (.fieldLink RX7 13 "CakeMarksModel" "text" "[I") (List.mem_of_getElem? (i := 1) rfl)) (fun _ h9 => h9) rfl dX7_reads_109 ?_
                    refine lv_iload_n hx hb dX7_reads_112 rfl (lv_at hl 0 rfl) ?_
                    obtain ⟨h_16, hw⟩ := hw
                    refine va_iald hx hb hK hP 2 0 rfl rfl h_16 dX7_reads_113 ?_
                    refine lv_iadd hx hb dX7_reads_114 ?_
                    refine lv_bipush (v := (48 : Int32)) hx hb dX7_reads_115 (by decide) ?_
                    refine lv_isub hx hb dX7_reads_117 ?_
                    refine lv_istore (lv' := [(5, .int ((((10 : Int32) * ((uX ((x1 + (1 : Int32)) + (1 : Int32)).toNatClampNeg) - (48 : Int32))) + (uX (((x1 + (1 : Int32)) + (1 : Int32)) + (1 : Int32)).toNatClampNeg)) - (48 : Int32))), (1, .int (((x1 + (1 : Int32)) + (1 : Int32)) + (1 : Int32))), (6, .int ((x1 + (1 : Int32)) + (1 : Int32))), (4, .int ((uX x1.toNatClampNeg) - (48 : Int32))), (0, .ref uo), (2, .int x2), (3, .int x3)]) hx hb dX7_reads_118 hl (by decide) rfl (fun ls hl => ?_)
                    refine lv_iinc (v := ((((x1 + (1 : Int32)) + (1 : Int32)) + (1 : Int32)) + (1 : Int32))) (lv' := [(1, .int ((((x1 + (1 : Int32)) + (1 : Int32)) + (1 : Int32)) + (1 : Int32))), (5, .int ((((10 : Int32) * ((uX ((x1 + (1 : Int32)) + (1 : Int32)).toNatClampNeg) - (48 : Int32))) + (uX (((x1 + (1 : Int32)) + (1 : Int32)) + (1 : Int32)).toNatClampNeg)) - (48 : Int32))), (6, .int ((x1 + (1 : Int32)) + (1 : Int32))), (4, .int ((uX x1.toNatClampNeg) - (48 : Int32))), (0, .ref uo), (2, .int x2), (3, .int x3)]) hx hb dX7_reads_120 hl (k := 1) rfl (by first | rfl | decide) (by decide) rfl (fun ls hl => ?_)
                    exact k_123 _ _ hJ6 hJ149 ((((x1 + (1 : Int32)) + (1 : Int32)) + (1 : Int32)) + (1 : Int32)) x2 ((uX x1.toNatClampNeg) - (48 : Int32)) ((((10 : Int32) * ((uX ((x1 + (1 : Int32)) + (1 : Int32)).toNatClampNeg) - (48 : Int32))) + (uX (((x1 + (1 : Int32)) + (1 : Int32)) + (1 : Int32)).toNatClampNeg)) - (48 : Int32)) ((x1 + (1 : Int32)) + (1 : Int32)) uT hw ls _ _ (lv_sub hl [4, 0, 5, 3, 1, 2] rfl) hP hD hS
                · have hw := hw.2 c_12
                  refine lv_iload_n hx hb dX7_reads_75 rfl (lv_at hl 0 rfl) ?_
                  exact hret 76 ((x1 + (1 : Int32)) + (1 : Int32)) uT _ _ _ (fun h => absurd h (by decide)) hw hP hD hS dX7_reads_76
          · have hw := hw.2 c_6
            refine lv_iload_n hx hb dX7_reads_25 rfl (lv_at hl 1 rfl) ?_
            exact hret 26 x1 uT _ _ _ (fun h => absurd h (by decide)) hw hP hD hS dX7_reads_26
    · intro x1 x2 x4 x5 x6 uT hw ls H locs hl hP hD hS
      unfold B_X7_reads_149 at hw
      refine lv_iload hx hb dX7_reads_149 (lv_at hl 5 rfl) ?_
      refine lv_iload hx hb dX7_reads_151 (lv_at hl 4 rfl) ?_
      refine lv_icmp_ge (tgt := 173) hx hb dX7_reads_153 (by decide) (fun c_17 => ?_) (fun c_17 => ?_)
      · have hw := hw.1 c_17
        refine lv_iload_n hx hb dX7_reads_173 rfl (lv_at hl 1 rfl) ?_
        refine lv_aload_n hx hb dX7_reads_174 rfl (lv_at hl 0 rfl) ?_
        refine va_get (D := (dC, dI)) (ci := 7) (v := .int ul) (C := RX7) (T := TX7) (N := 16) hx hb hts in_X7_reads_X7 hown hK hP 0 rfl rfl 3 (by decide) (hts (.fieldLink RX7 69 "CakeMarksModel" "length" "I") (List.mem_of_getElem? (i := 2) rfl)) (fun _ h9 => h9) rfl dX7_reads_175 ?_
        refine lv_icmp_ge (tgt := 196) hx hb dX7_reads_178 (by decide) (fun c_18 => ?_) (fun c_18 => ?_)
        · have hw := hw.1 c_18
          refine lv_iconst (v := (0 : Int32)) hx hb dX7_reads_196 (by decide) ?_
          exact k_197 _ _ hJ6 hJ149 x1 x2 uT (0 : Int32) hw ls _ _ (lv_sub hl [0, 1, 2] rfl) hP hD hS
        · have hw := hw.2 c_18
          refine lv_aload_n hx hb dX7_reads_181 rfl (lv_at hl 0 rfl) ?_
          refine va_get (D := (dC, dI)) (ci := 7) (v := .ref ux) (C := RX7) (T := TX7) (N := 16) hx hb hts in_X7_reads_X7 hown hK hP 0 rfl rfl 2 (by decide) (hts (.fieldLink RX7 13 "CakeMarksModel" "text" "[I") (List.mem_of_getElem? (i := 1) rfl)) (fun _ h9 => h9) rfl dX7_reads_182 ?_
          refine lv_iload_n hx hb dX7_reads_185 rfl (lv_at hl 1 rfl) ?_
          obtain ⟨h_19, hw⟩ := hw
          refine va_iald hx hb hK hP 2 0 rfl rfl h_19 dX7_reads_186 ?_
          refine lv_bipush (v := (44 : Int32)) hx hb dX7_reads_187 (by decide) ?_
          refine lv_icmp_ne (tgt := 196) hx hb dX7_reads_189 (by decide) (fun c_20 => ?_) (fun c_20 => ?_)
          · have hw := hw.1 c_20
            refine lv_iconst (v := (0 : Int32)) hx hb dX7_reads_196 (by decide) ?_
            exact k_197 _ _ hJ6 hJ149 x1 x2 uT (0 : Int32) hw ls _ _ (lv_sub hl [0, 1, 2] rfl) hP hD hS
          · have hw := hw.2 c_20
            refine lv_iconst (v := (1 : Int32)) hx hb dX7_reads_192 (by decide) ?_
            refine lv_goto (tgt := 197) hx hb dX7_reads_193 (by decide) ?_
            exact k_197 _ _ hJ6 hJ149 x1 x2 uT (1 : Int32) hw ls _ _ (lv_sub hl [0, 1, 2] rfl) hP hD hS
      · have hw := hw.2 c_17
        refine lv_aload_n hx hb dX7_reads_156 rfl (lv_at hl 0 rfl) ?_
        refine va_get (D := (dC, dI)) (ci := 7) (v := .ref ut) (C := RX7) (T := TX7) (N := 16) hx hb hts in_X7_reads_X7 hown hK hP 0 rfl rfl 4 (by decide) (hts (.fieldLink RX7 16 "CakeMarksModel" "told" "[I") (List.mem_of_getElem? (i := 3) rfl)) (fun _ h9 => h9) rfl dX7_reads_157 ?_
        refine lv_iload_n hx hb dX7_reads_160 rfl (lv_at hl 2 rfl) ?_
        refine lv_iload hx hb dX7_reads_161 (lv_at hl 3 rfl) ?_
        obtain ⟨h_21, hw⟩ := hw
        refine va_iast hx hb hK hP hD hS 3 0 rfl rfl h_21 dX7_reads_163 (fun H locs hP hD hS => ?_)
        have hP : va_P (dC, dI) vwCl (kModel kI uo ur ux ut un uf uw ub uR uk uX ul (upd uT x2.toNatClampNeg x4) ui uN uF uW uB ubw ubu ubd ucm ucw ucf) H := hP
        have hD : va_D A (kModel kI uo ur ux ut un uf uw ub uR uk uX ul (upd uT x2.toNatClampNeg x4) ui uN uF uW uB ubw ubu ubd ucm ucw ucf) := hD
        refine lv_iinc (v := (x2 + (1 : Int32))) (lv' := [(2, .int (x2 + (1 : Int32))), (0, .ref uo), (1, .int x1), (4, .int x4), (5, .int x5), (6, .int x6)]) hx hb dX7_reads_164 hl (k := 2) rfl (by first | rfl | decide) (by decide) rfl (fun ls hl => ?_)
        refine lv_iinc (v := (x6 + (1 : Int32))) (lv' := [(6, .int (x6 + (1 : Int32))), (2, .int (x2 + (1 : Int32))), (0, .ref uo), (1, .int x1), (4, .int x4), (5, .int x5)]) hx hb dX7_reads_167 hl (k := 5) rfl (by first | rfl | decide) (by decide) rfl (fun ls hl => ?_)
        refine lv_goto (tgt := 149) hx hb dX7_reads_170 (by decide) ?_
        exact hJ149 x1 (x2 + (1 : Int32)) x4 x5 (x6 + (1 : Int32)) (upd uT x2.toNatClampNeg x4) hw ls _ _ (lv_sub hl [2, 3, 1, 4, 5, 0] rfl) hP hD hS
  have hJ6 : ∀ (x1 : Int32) (x2 : Int32) (x3 : Int32) (uT : Nat → Int32), Wp_X7_reads_6 uX ul Z x1 x2 x3 uT → ∀ (ls : Array Slot) (H : Heap) (locs : List Loc), lv_has ls 7 [(0, .ref uo), (1, .int x1), (2, .int x2), (3, .int x3)] → va_P (dC, dI) vwCl (kModel kI uo ur ux ut un uf uw ub uR uk uX ul uT ui uN uF uW uB ubw ubu ubd ucm ucw ucf) H → va_D A (kModel kI uo ur ux ut un uf uw ub uR uk uX ul uT ui uN uF uW uB ubw ubu ubd ucm ucw ucf) → va_S A s.heap H locs → W p l e ({ frames := 2, cells := 0, slots := 0, locals := 44 }) s m args below meth c H locs 0 0 Q (F0 m 6 ls []) := fun x1 x2 x3 uT hv => hv (fun x1 x2 x3 uT => ∀ (ls : Array Slot) (H : Heap) (locs : List Loc), lv_has ls 7 [(0, .ref uo), (1, .int x1), (2, .int x2), (3, .int x3)] → va_P (dC, dI) vwCl (kModel kI uo ur ux ut un uf uw ub uR uk uX ul uT ui uN uF uW uB ubw ubu ubd ucm ucw ucf) H → va_D A (kModel kI uo ur ux ut un uf uw ub uR uk uX ul uT ui uN uF uW uB ubw ubu ubd ucm ucw ucf) → va_S A s.heap H locs → W p l e ({ frames := 2, cells := 0, slots := 0, locals := 44 }) s m args below meth c H locs 0 0 Q (F0 m 6 ls [])) (fun x1 x2 x4 x5 x6 uT => ∀ (ls : Array Slot) (H : Heap) (locs : List Loc), lv_has ls 7 [(0, .ref uo), (1, .int x1), (2, .int x2), (4, .int x4), (5, .int x5), (6, .int x6)] → va_P (dC, dI) vwCl (kModel kI uo ur ux ut un uf uw ub uR uk uX ul uT ui uN uF uW uB ubw ubu ubd ucm ucw ucf) H → va_D A (kModel kI uo ur ux ut un uf uw ub uR uk uX ul uT ui uN uF uW uB ubw ubu ubd ucm ucw ucf) → va_S A s.heap H locs → W p l e ({ frames := 2, cells := 0, slots := 0, locals := 44 }) s m args below meth c H locs 0 0 Q (F0 m 149 ls [])) (fun J6 J149 q6 q149 => (key J6 J149 q6 q149).1) (fun J6 J149 q6 q149 => (key J6 J149 q6 q149).2)
  have hJ149 : ∀ (x1 : Int32) (x2 : Int32) (x4 : Int32) (x5 : Int32) (x6 : Int32) (uT : Nat → Int32), Wp_X7_reads_149 uX ul Z x1 x2 x4 x5 x6 uT → ∀ (ls : Array Slot) (H : Heap) (locs : List Loc), lv_has ls 7 [(0, .ref uo), (1, .int x1), (2, .int x2), (4, .int x4), (5, .int x5), (6, .int x6)] → va_P (dC, dI) vwCl (kModel kI uo ur ux ut un uf uw ub uR uk uX ul uT ui uN uF uW uB ubw ubu ubd ucm ucw ucf) H → va_D A (kModel kI uo ur ux ut un uf uw ub uR uk uX ul uT ui uN uF uW uB ubw ubu ubd ucm ucw ucf) → va_S A s.heap H locs → W p l e ({ frames := 2, cells := 0, slots := 0, locals := 44 }) s m args below meth c H locs 0 0 Q (F0 m 149 ls []) := fun x1 x2 x4 x5 x6 uT hv => hv (fun x1 x2 x3 uT => ∀ (ls : Array Slot) (H : Heap) (locs : List Loc), lv_has ls 7 [(0, .ref uo), (1, .int x1), (2, .int x2), (3, .int x3)] → va_P (dC, dI) vwCl (kModel kI uo ur ux ut un uf uw ub uR uk uX ul uT ui uN uF uW uB ubw ubu ubd ucm ucw ucf) H → va_D A (kModel kI uo ur ux ut un uf uw ub uR uk uX ul uT ui uN uF uW uB ubw ubu ubd ucm ucw ucf) → va_S A s.heap H locs → W p l e ({ frames := 2, cells := 0, slots := 0, locals := 44 }) s m args below meth c H locs 0 0 Q (F0 m 6 ls [])) (fun x1 x2 x4 x5 x6 uT => ∀ (ls : Array Slot) (H : Heap) (locs : List Loc), lv_has ls 7 [(0, .ref uo), (1, .int x1), (2, .int x2), (4, .int x4), (5, .int x5), (6, .int x6)] → va_P (dC, dI) vwCl (kModel kI uo ur ux ut un uf uw ub uR uk uX ul uT ui uN uF uW uB ubw ubu ubd ucm ucw ucf) H → va_D A (kModel kI uo ur ux ut un uf uw ub uR uk uX ul uT ui uN uF uW uB ubw ubu ubd ucm ucw ucf) → va_S A s.heap H locs → W p l e ({ frames := 2, cells := 0, slots := 0, locals := 44 }) s m args below meth c H locs 0 0 Q (F0 m 149 ls [])) (fun J6 J149 q6 q149 => (key J6 J149 q6 q149).1) (fun J6 J149 q6 q149 => (key J6 J149 q6 q149).2)
  unfold Wp_X7_reads at hw
  refine lv_iconst (v := (0 : Int32)) hx hb dX7_reads_0 (by decide) ?_
  refine lv_istore_n (lv' := [(1, .int (0 : Int32)), (0, .ref uo)]) hx hb dX7_reads_1 rfl hl (by decide) rfl (fun ls hl => ?_)
  refine lv_iconst (v := (0 : Int32)) hx hb dX7_reads_2 (by decide) ?_
  refine lv_istore_n (lv' := [(2, .int (0 : Int32)), (1, .int (0 : Int32)), (0, .ref uo)]) hx hb dX7_reads_3 rfl hl (by decide) rfl (fun ls hl => ?_)
  refine lv_iconst (v := (1 : Int32)) hx hb dX7_reads_4 (by decide) ?_
  refine lv_istore_n (lv' := [(3, .int (1 : Int32)), (2, .int (0 : Int32)), (1, .int (0 : Int32)), (0, .ref uo)]) hx hb dX7_reads_5 rfl hl (by decide) rfl (fun ls hl => ?_)
  exact hJ6 (0 : Int32) (0 : Int32) (1 : Int32) uT hw ls _ _ (lv_sub hl [3, 2, 1, 0] rfl) hP hD hS
-- CakeMarksModel.read(I)I
def B_X7_read_42 (uX : Nat → Int32) (ul : Int32) (a1 : Int32) (Z : Int32 → (Nat → Int32) → Int32 → (Nat → Int32) → Int32 → Prop) (J42 : Int32 → (Nat → Int32) → Int32 → (Nat → Int32) → Int32 → Prop) (x2 : Int32) (uR : Nat → Int32) (uk : Int32) (uT : Nat → Int32) (ui : Int32) : Prop := (((24 : Int32) ≤ x2 → (Wp_X7_total uR a1 (fun r_9 => (Z r_9 uR uk uT ui)))) ∧ (¬ (24 : Int32) ≤ x2 → (vp_in x2 24 ∧ (vp_in (((25 : Int32) + ((24 : Int32) * a1)) + x2) 847 ∧ (J42 (x2 + (1 : Int32)) (upd uR (((25 : Int32) + ((24 : Int32) * a1)) + x2).toNatClampNeg (uT x2.toNatClampNeg)) uk uT ui)))))
def Wp_X7_read_42 (uX : Nat → Int32) (ul : Int32) (a1 : Int32) (Z : Int32 → (Nat → Int32) → Int32 → (Nat → Int32) → Int32 → Prop) (x2 : Int32) (uR : Nat → Int32) (uk : Int32) (uT : Nat → Int32) (ui : Int32) : Prop := ∀ (I42 : Int32 → (Nat → Int32) → Int32 → (Nat → Int32) → Int32 → Prop), (∀ (J42 : Int32 → (Nat → Int32) → Int32 → (Nat → Int32) → Int32 → Prop), (∀ (x2 : Int32) (uR : Nat → Int32) (uk : Int32) (uT : Nat → Int32) (ui : Int32), J42 x2 uR uk uT ui → I42 x2 uR uk uT ui) → ∀ (x2 : Int32) (uR : Nat → Int32) (uk : Int32) (uT : Nat → Int32) (ui : Int32), B_X7_read_42 uX ul a1 Z J42 x2 uR uk uT ui → I42 x2 uR uk uT ui) → I42 x2 uR uk uT ui
theorem F_X7_read_42 (uX : Nat → Int32) (ul : Int32) (a1 : Int32) (Z : Int32 → (Nat → Int32) → Int32 → (Nat → Int32) → Int32 → Prop) (x2 : Int32) (uR : Nat → Int32) (uk : Int32) (uT : Nat → Int32) (ui : Int32) (h : B_X7_read_42 uX ul a1 Z (Wp_X7_read_42 uX ul a1 Z) x2 uR uk uT ui) : Wp_X7_read_42 uX ul a1 Z x2 uR uk uT ui := fun I42 h42 => h42 _ (fun x2 uR uk uT ui hx => hx I42 h42) x2 uR uk uT ui h
def Wp_X7_read (uR : Nat → Int32) (uk : Int32) (uX : Nat → Int32) (ul : Int32) (uT : Nat → Int32) (ui : Int32) (a1 : Int32) (Z : Int32 → (Nat → Int32) → Int32 → (Nat → Int32) → Int32 → Prop) : Prop := (Wp_X7_isGuest uR a1 (fun r_1 => ((¬ r_1 = (0 : Int32) → (Wp_X7_reads uX ul uT (fun r_4 uT_3 => ((r_4 = (-9 : Int32) → (Wp_X7_records uR uk (fun uR_6 uk_7 => ((Wp_X7_read_42 uX ul a1 Z) (0 : Int32) uR_6 uk_7 uT_3 r_4)))) ∧ (¬ r_4 = (-9 : Int32) → (Z ((-1000 : Int32) - r_4) uR uk uT_3 r_4)))))) ∧ (r_1 = (0 : Int32) → (Z (-1 : Int32) uR uk uT ui)))))
theorem in_X7_read_X7 : ∀ w ∈ u_ws RX7 TX7 16, w ∈ wsX7_read := fun w h => List.mem_cons_of_mem _ (List.mem_append_right _ h)
set_option maxHeartbeats 20000000 in
set_option maxRecDepth 100000 in
theorem c_X7_read (l : Launch) (dC : Nat → ClassId) (dI : Nat → Nat → Nat) (kI kA kC : ClassId) (uo : Nat) (ur : Nat) (ux : Nat) (ut : Nat) (un : Nat) (uf : Nat) (uw : Nat) (ub : Nat) (sz : Nat) (uR : Nat → Int32) (uk : Int32) (uX : Nat → Int32) (ul : Int32) (uT : Nat → Int32) (ui : Int32) (uN : Nat → Int32) (uF : Nat → Int32) (uW : Nat → Int32) (uB : Nat → Int32) (ubw : Int32) (ubu : Int32) (ubd : Int32) (ucm : Int32) (ucw : Int32) (ucf : Int32) (a1 : Int32) (Z : Int32 → (Nat → Int32) → Int32 → (Nat → Int32) → Int32 → Prop) (hw : Wp_X7_read uR uk uX ul uT ui a1 Z) : zI l yX7_read wsX7_read ({ frames := 3, cells := 0, slots := 0, locals := 70 }) dC dI kI kA kC sz 0 0 [.ref uo, .int a1] (kModel kI uo ur ux ut un uf uw ub uR uk uX ul uT ui uN uF uW uB ubw ubu ubd ucm ucw ucf) (fun (r : Int32) (u : (Nat → Int32) × Int32 × (Nat → Int32) × Int32) => Z r u.1 u.2.1 u.2.2.1 u.2.2.2) (fun (u : (Nat → Int32) × Int32 × (Nat → Int32) × Int32) => (kModel kI uo ur ux ut un uf uw ub u.1 u.2.1 uX ul u.2.2.1 u.2.2.2 uN uF uW uB ubw ubu ubd ucm ucw ucf)) := by
  refine zI.of (cc := cX7_read) (maxL := 3) (ty := .int) (by decide) rfl (Nat.le_of_ble_eq_true rfl) (Or.inl rfl) ?_
  intro p e s m args below meth c A Q C0 hret ls hl
  obtain ⟨hx, hb, hr, hml, hts, hown, hin, hP, hK, hD, hA, hS⟩ := C0
  have hown : s.vm.findClass RX7 = some m.cls := hown
  have hl : lv_has ls 3 [(0, .ref uo), (1, .int a1)] := hl
  have key : ∀ (J42 : Int32 → (Nat → Int32) → Int32 → (Nat → Int32) → Int32 → Prop) (hJ42 : ∀ (x2 : Int32) (uR : Nat → Int32) (uk : Int32) (uT : Nat → Int32) (ui : Int32), J42 x2 uR uk uT ui → ∀ (ls : Array Slot) (H : Heap) (locs : List Loc), lv_has ls 3 [(0, .ref uo), (1, .int a1), (2, .int x2)] → va_P (dC, dI) vwCl (kModel kI uo ur ux ut un uf uw ub uR uk uX ul uT ui uN uF uW uB ubw ubu ubd ucm ucw ucf) H → va_D A (kModel kI uo ur ux ut un uf uw ub uR uk uX ul uT ui uN uF uW uB ubw ubu ubd ucm ucw ucf) → va_S A s.heap H locs → W p l e ({ frames := 3, cells := 0, slots := 0, locals := 70 }) s m args below meth c H locs 0 0 Q (F0 m 42 ls [])), (∀ (x2 : Int32) (uR : Nat → Int32) (uk : Int32) (uT : Nat → Int32) (ui : Int32), B_X7_read_42 uX ul a1 Z J42 x2 uR uk uT ui → ∀ (ls : Array Slot) (H : Heap) (locs : List Loc), lv_has ls 3 [(0, .ref uo), (1, .int a1), (2, .int x2)] → va_P (dC, dI) vwCl (kModel kI uo ur ux ut un uf uw ub uR uk uX ul uT ui uN uF uW uB ubw ubu ubd ucm ucw ucf) H → va_D A (kModel kI uo ur ux ut un uf uw ub uR uk uX ul uT ui uN uF uW uB ubw ubu ubd ucm ucw ucf) → va_S A s.heap H locs → W p l e ({ frames := 3, cells := 0, slots := 0, locals := 70 }) s m args below meth c H locs 0 0 Q (F0 m 42 ls [])) := by
    intro J42 hJ42
    · intro x2 uR uk uT ui hw ls H locs hl hP hD hS
      unfold B_X7_read_42 at hw
      refine lv_iload_n hx hb dX7_read_42 rfl (lv_at hl 2 rfl) ?_
      refine lv_bipush (v := (24 : Int32)) hx hb dX7_read_43 (by decide) ?_
      refine lv_icmp_ge (tgt := 74) hx hb dX7_read_45 (by decide) (fun c_8 => ?_) (fun c_8 => ?_)
      · have hw := hw.1 c_8
        refine lv_aload_n hx hb dX7_read_74 rfl (lv_at hl 0 rfl) ?_
        refine lv_iload_n hx hb dX7_read_75 rfl (lv_at hl 1 rfl) ?_
        refine zcallI (ci := 7) (q0 := 0) (As := [.int a1]) (rest := []) (wr := ([] : va_W)) (Wn := fun u => (kModel kI uo ur ux ut un uf uw ub uR uk uX ul uT ui uN uF uW uB ubw ubu ubd ucm ucw ucf)) ⟨hx, hb, hml, hown, hts⟩ (c_X7_total l dC dI kI kA kC uo ur ux ut un uf uw ub _ uR uk uX ul uT ui uN uF uW uB ubw ubu ubd ucm ucw ucf a1 _ hw) (cwV 1 hts gX7_read_X7_total rfl rfl rfl (by decide +kernel) ⟨Nat.le_of_ble_eq_true rfl, Nat.le_of_ble_eq_true rfl⟩) hK hP hD hS hA [0, 1, 2, 3, 4, 5, 6, 7] [] [0, 1, 2, 3, 4, 5, 6, 7] rfl rfl (by decide) (by decide) (by decide) (fun u => rfl) (by decide) rfl rfl rfl rfl hl.1 rfl (Nat.le_of_ble_eq_true rfl) dX7_read_76 ⟨Nat.zero_le _, Nat.zero_le _⟩ (fun r_9 u H locs hw hP hD hS => ?_)
        have hP : va_P (dC, dI) vwCl (kModel kI uo ur ux ut un uf uw ub uR uk uX ul uT ui uN uF uW uB ubw ubu ubd ucm ucw ucf) H := hP
        have hD : va_D A (kModel kI uo ur ux ut un uf uw ub uR uk uX ul uT ui uN uF uW uB ubw ubu ubd ucm ucw ucf) := hD
        exact hret 79 r_9 (uR, uk, uT, ui) _ _ _ (fun h => absurd h (by decide)) hw hP hD hS dX7_read_79
      · have hw := hw.2 c_8
        refine lv_aload_n hx hb dX7_read_48 rfl (lv_at hl 0 rfl) ?_
        refine va_get (D := (dC, dI)) (ci := 7) (v := .ref ur) (C := RX7) (T := TX7) (N := 16) hx hb hts in_X7_read_X7 hown hK hP 0 rfl rfl 0 (by decide) (hts (.fieldLink RX7 7 "CakeMarksModel" "row" "[I") (List.mem_of_getElem? (i := 2) rfl)) (fun _ h9 => h9) rfl dX7_read_49 ?_
        refine lv_bipush (v := (25 : Int32)) hx hb dX7_read_52 (by decide) ?_
        refine lv_bipush (v := (24 : Int32)) hx hb dX7_read_54 (by decide) ?_
        refine lv_iload_n hx hb dX7_read_56 rfl (lv_at hl 1 rfl) ?_
        refine lv_imul hx hb dX7_read_57 ?_
        refine lv_iadd hx hb dX7_read_58 ?_
        refine lv_iload_n hx hb dX7_read_59 rfl (lv_at hl 2 rfl) ?_
        refine lv_iadd hx hb dX7_read_60 ?_
        refine lv_aload_n hx hb dX7_read_61 rfl (lv_at hl 0 rfl) ?_
        refine va_get (D := (dC, dI)) (ci := 7) (v := .ref ut) (C := RX7) (T := TX7) (N := 16) hx hb hts in_X7_read_X7 hown hK hP 0 rfl rfl 4 (by decide) (hts (.fieldLink RX7 16 "CakeMarksModel" "told" "[I") (List.mem_of_getElem? (i := 3) rfl)) (fun _ h9 => h9) rfl dX7_read_62 ?_
        refine lv_iload_n hx hb dX7_read_65 rfl (lv_at hl 2 rfl) ?_
        obtain ⟨h_10, hw⟩ := hw
        refine va_iald hx hb hK hP 3 0 rfl rfl h_10 dX7_read_66 ?_
        obtain ⟨h_11, hw⟩ := hw
        refine va_iast hx hb hK hP hD hS 1 0 rfl rfl h_11 dX7_read_67 (fun H locs hP hD hS => ?_)
        have hP : va_P (dC, dI) vwCl (kModel kI uo ur ux ut un uf uw ub (upd uR (((25 : Int32) + ((24 : Int32) * a1)) + x2).toNatClampNeg (uT x2.toNatClampNeg)) uk uX ul uT ui uN uF uW uB ubw ubu ubd ucm ucw ucf) H := hP
        have hD : va_D A (kModel kI uo ur ux ut un uf uw ub (upd uR (((25 : Int32) + ((24 : Int32) * a1)) + x2).toNatClampNeg (uT x2.toNatClampNeg)) uk uX ul uT ui uN uF uW uB ubw ubu ubd ucm ucw ucf) := hD
        refine lv_iinc (v := (x2 + (1 : Int32))) (lv' := [(2, .int (x2 + (1 : Int32))), (0, .ref uo), (1, .int a1)]) hx hb dX7_read_68 hl (k := 2) rfl (by first | rfl | decide) (by decide) rfl (fun ls hl => ?_)
        refine lv_goto (tgt := 42) hx hb dX7_read_71 (by decide) ?_
        exact hJ42 (x2 + (1 : Int32)) (upd uR (((25 : Int32) + ((24 : Int32) * a1)) + x2).toNatClampNeg (uT x2.toNatClampNeg)) uk uT ui hw ls _ _ (lv_sub hl [1, 2, 0] rfl) hP hD hS
  have hJ42 : ∀ (x2 : Int32) (uR : Nat → Int32) (uk : Int32) (uT : Nat → Int32) (ui : Int32), Wp_X7_read_42 uX ul a1 Z x2 uR uk uT ui → ∀ (ls : Array Slot) (H : Heap) (locs : List Loc), lv_has ls 3 [(0, .ref uo), (1, .int a1), (2, .int x2)] → va_P (dC, dI) vwCl (kModel kI uo ur ux ut un uf uw ub uR uk uX ul uT ui uN uF uW uB ubw ubu ubd ucm ucw ucf) H → va_D A (kModel kI uo ur ux ut un uf uw ub uR uk uX ul uT ui uN uF uW uB ubw ubu ubd ucm ucw ucf) → va_S A s.heap H locs → W p l e ({ frames := 3, cells := 0, slots := 0, locals := 70 }) s m args below meth c H locs 0 0 Q (F0 m 42 ls []) := fun x2 uR uk uT ui hv => hv (fun x2 uR uk uT ui => ∀ (ls : Array Slot) (H : Heap) (locs : List Loc), lv_has ls 3 [(0, .ref uo), (1, .int a1), (2, .int x2)] → va_P (dC, dI) vwCl (kModel kI uo ur ux ut un uf uw ub uR uk uX ul uT ui uN uF uW uB ubw ubu ubd ucm ucw ucf) H → va_D A (kModel kI uo ur ux ut un uf uw ub uR uk uX ul uT ui uN uF uW uB ubw ubu ubd ucm ucw ucf) → va_S A s.heap H locs → W p l e ({ frames := 3, cells := 0, slots := 0, locals := 70 }) s m args below meth c H locs 0 0 Q (F0 m 42 ls [])) (fun J42 q42 => (key J42 q42))
  unfold Wp_X7_read at hw
  refine lv_aload_n hx hb dX7_read_0 rfl (lv_at hl 0 rfl) ?_
  refine lv_iload_n hx hb dX7_read_1 rfl (lv_at hl 1 rfl) ?_
  refine zcallI (ci := 7) (q0 := 0) (As := [.int a1]) (rest := []) (wr := ([] : va_W)) (Wn := fun u => (kModel kI uo ur ux ut un uf uw ub uR uk uX ul uT ui uN uF uW uB ubw ubu ubd ucm ucw ucf)) ⟨hx, hb, hml, hown, hts⟩ (c_X7_isGuest l dC dI kI kA kC uo ur ux ut un uf uw ub _ uR uk uX ul uT ui uN uF uW uB ubw ubu ubd ucm ucw ucf a1 _ hw) (cwV 1 hts gX7_read_X7_isGuest rfl rfl rfl (by decide +kernel) ⟨Nat.le_of_ble_eq_true rfl, Nat.le_of_ble_eq_true rfl⟩) hK hP hD hS hA [0, 1, 2, 3, 4, 5, 6, 7] [] [0, 1, 2, 3, 4, 5, 6, 7] rfl rfl (by decide) (by decide) (by decide) (fun u => rfl) (by decide) rfl rfl rfl rfl hl.1 rfl (Nat.le_of_ble_eq_true rfl) dX7_read_2 ⟨Nat.zero_le _, Nat.zero_le _⟩ (fun r_1 u H locs hw hP hD hS => ?_)
  have hP : va_P (dC, dI) vwCl (kModel kI uo ur ux ut un uf uw ub uR uk uX ul uT ui uN uF uW uB ubw ubu ubd ucm ucw ucf) H := hP
  have hD : va_D A (kModel kI uo ur ux ut un uf uw ub uR uk uX ul uT ui uN uF uW uB ubw ubu ubd ucm ucw ucf) := hD
  refine lv_if_ne (tgt := 10) hx hb dX7_read_5 (by decide) (fun c_2 => ?_) (fun c_2 => ?_)
  · have hw := hw.1 c_2
    refine lv_aload_n hx hb dX7_read_10 rfl (lv_at hl 0 rfl) ?_
    refine lv_aload_n hx hb dX7_read_11 rfl (lv_at hl 0 rfl) ?_
    refine zcallI (ci := 7) (q0 := 0) (As := []) (rest := [.ref uo]) (wr := ([] : va_W)) (Wn := fun u => (kModel kI uo ur ux ut un uf uw ub uR uk uX ul u ui uN uF uW uB ubw ubu ubd ucm ucw ucf)) ⟨hx, hb, hml, hown, hts⟩ (c_X7_reads l dC dI kI kA kC uo ur ux ut un uf uw ub _ uR uk uX ul uT ui uN uF uW uB ubw ubu ubd ucm ucw ucf _ hw) (cwV 0 hts gX7_read_X7_reads rfl rfl rfl (by decide +kernel) ⟨Nat.le_of_ble_eq_true rfl, Nat.le_of_ble_eq_true rfl⟩) hK hP hD hS hA [0, 1, 2, 3, 4, 5, 6, 7] [] [0, 1, 2, 3, 4, 5, 6, 7] rfl rfl (by decide) (by decide) (by decide) (fun u => rfl) (by decide) rfl rfl rfl rfl hl.1 rfl (Nat.le_of_ble_eq_true rfl) dX7_read_12 ⟨Nat.zero_le _, Nat.zero_le _⟩ (fun r_4 uT_3 H locs hw hP hD hS => ?_)
    have hP : va_P (dC, dI) vwCl (kModel kI uo ur ux ut un uf uw ub uR uk uX ul uT_3 ui uN uF uW uB ubw ubu ubd ucm ucw ucf) H := hP
    have hD : va_D A (kModel kI uo ur ux ut un uf uw ub uR uk uX ul uT_3 ui uN uF uW uB ubw ubu ubd ucm ucw ucf) := hD
    refine va_put (D := (dC, dI)) (ci := 7) (v := .int r_4) (ty := .int) (C := RX7) (T := TX7) (N := 16) hx hb hts in_X7_read_X7 tyX7 tyX7_ok nmX7 hown hK hP hD hS 0 rfl rfl 5 (by decide) (hts (.fieldLink RX7 79 "CakeMarksModel" "fail" "I") (List.mem_of_getElem? (i := 1) rfl)) (fun _ h9 => h9) rfl (by decide +kernel) rfl rfl (Nat.le_of_ble_eq_true rfl) dX7_read_15 (fun H locs hP hD hS => ?_)
    have hP : va_P (dC, dI) vwCl (kModel kI uo ur ux ut un uf uw ub uR uk uX ul uT_3 r_4 uN uF uW uB ubw ubu ubd ucm ucw ucf) H := hP
    have hD : va_D A (kModel kI uo ur ux ut un uf uw ub uR uk uX ul uT_3 r_4 uN uF uW uB ubw ubu ubd ucm ucw ucf) := hD
    refine lv_aload_n hx hb dX7_read_18 rfl (lv_at hl 0 rfl) ?_
    refine va_get (D := (dC, dI)) (ci := 7) (v := .int r_4) (C := RX7) (T := TX7) (N := 16) hx hb hts in_X7_read_X7 hown hK hP 0 rfl rfl 5 (by decide) (hts (.fieldLink RX7 79 "CakeMarksModel" "fail" "I") (List.mem_of_getElem? (i := 1) rfl)) (fun _ h9 => h9) rfl dX7_read_19 ?_
    refine lv_bipush (v := (-9 : Int32)) hx hb dX7_read_22 (by decide) ?_
    refine lv_icmp_eq (tgt := 36) hx hb dX7_read_24 (by decide) (fun c_5 => ?_) (fun c_5 => ?_)
    · have hw := hw.1 c_5
      refine lv_aload_n hx hb dX7_read_36 rfl (lv_at hl 0 rfl) ?_
      refine zcallV (ci := 7) (q0 := 0) (As := []) (rest := []) (wr := ([] : va_W)) (Wn := fun u => (kModel kI uo ur ux ut un uf uw ub u.1 u.2 uX ul uT_3 r_4 uN uF uW uB ubw ubu ubd ucm ucw ucf)) ⟨hx, hb, hml, hown, hts⟩ (c_X7_records l dC dI kI kA kC uo ur ux ut un uf uw ub _ uR uk uX ul uT_3 r_4 uN uF uW uB ubw ubu ubd ucm ucw ucf _ hw) (cwV 0 hts gX7_read_X7_records rfl rfl rfl (by decide +kernel) ⟨Nat.le_of_ble_eq_true rfl, Nat.le_of_ble_eq_true rfl⟩) hK hP hD hS hA [0, 1, 2, 3, 4, 5, 6, 7] [] [0, 1, 2, 3, 4, 5, 6, 7] rfl rfl (by decide) (by decide) (by decide) (fun u => rfl) (by decide) rfl rfl rfl rfl hl.1 rfl (Nat.le_of_ble_eq_true rfl) dX7_read_37 ⟨Nat.zero_le _, Nat.zero_le _⟩ (fun u H locs hw hP hD hS => ?_)
      obtain ⟨uR_6, uk_7⟩ := u
      have hP : va_P (dC, dI) vwCl (kModel kI uo ur ux ut un uf uw ub uR_6 uk_7 uX ul uT_3 r_4 uN uF uW uB ubw ubu ubd ucm ucw ucf) H := hP
      have hD : va_D A (kModel kI uo ur ux ut un uf uw ub uR_6 uk_7 uX ul uT_3 r_4 uN uF uW uB ubw ubu ubd ucm ucw ucf) := hD
      refine lv_iconst (v := (0 : Int32)) hx hb dX7_read_40 (by decide) ?_
      refine lv_istore_n (lv' := [(2, .int (0 : Int32)), (0, .ref uo), (1, .int a1)]) hx hb dX7_read_41 rfl hl (by decide) rfl (fun ls hl => ?_)
      exact hJ42 (0 : Int32) uR_6 uk_7 uT_3 r_4 hw ls _ _ (lv_sub hl [1, 2, 0] rfl) hP hD hS
    · have hw := hw.2 c_5
      refine lv_sipush (v := (-1000 : Int32)) hx hb dX7_read_27 (by decide) ?_
      refine lv_aload_n hx hb dX7_read_30 rfl (lv_at hl 0 rfl) ?_
      refine va_get (D := (dC, dI)) (ci := 7) (v := .int r_4) (C := RX7) (T := TX7) (N := 16) hx hb hts in_X7_read_X7 hown hK hP 0 rfl rfl 5 (by decide) (hts (.fieldLink RX7 79 "CakeMarksModel" "fail" "I") (List.mem_of_getElem? (i := 1) rfl)) (fun _ h9 => h9) rfl dX7_read_31 ?_
      refine lv_isub hx hb dX7_read_34 ?_
      exact hret 35 ((-1000 : Int32) - r_4) (uR, uk, uT_3, r_4) _ _ _ (fun h => absurd h (by decide)) hw hP hD hS dX7_read_35
  · have hw := hw.2 c_2
    refine lv_iconst (v := (-1 : Int32)) hx hb dX7_read_8 (by decide) ?_
    exact hret 9 (-1 : Int32) (uR, uk, uT, ui) _ _ _ (fun h => absurd h (by decide)) hw hP hD hS dX7_read_9
-- CakeMarksModel.brings(IIZI)I
def K_X7_brings_31 (a1 : Int32) (a2 : Int32) (a3 : Int32) (a4 : Int32) (Z : Int32 → (Nat → Int32) → Prop) (J6 : Int32 → Int32 → (Nat → Int32) → Prop) (x5 : Int32) (x6 : Int32) (uR : Nat → Int32) (t0 : Int32) : Prop := ((¬ t0 = a3 → (J6 x5 (x6 + (1 : Int32)) uR)) ∧ (t0 = a3 → (vp_in ((1 : Int32) + x6) 847 ∧ (J6 (x5 + (1 : Int32)) (x6 + (1 : Int32)) (upd uR ((1 : Int32) + x6).toNatClampNeg a4)))))
def B_X7_brings_6 (a1 : Int32) (a2 : Int32) (a3 : Int32) (a4 : Int32) (Z : Int32 → (Nat → Int32) → Prop) (J6 : Int32 → Int32 → (Nat → Int32) → Prop) (x5 : Int32) (x6 : Int32) (uR : Nat → Int32) : Prop := ((a2 < x6 → (Z x5 uR)) ∧ (¬ a2 < x6 → (vp_in ((1 : Int32) + x6) 847 ∧ ((¬ (uR ((1 : Int32) + x6).toNatClampNeg) = (-9 : Int32) → (K_X7_brings_31 a1 a2 a3 a4 Z J6 x5 x6 uR (0 : Int32))) ∧ ((uR ((1 : Int32) + x6).toNatClampNeg) = (-9 : Int32) → (K_X7_brings_31 a1 a2 a3 a4 Z J6 x5 x6 uR (1 : Int32)))))))
def Wp_X7_brings_6 (a1 : Int32) (a2 : Int32) (a3 : Int32) (a4 : Int32) (Z : Int32 → (Nat → Int32) → Prop) (x5 : Int32) (x6 : Int32) (uR : Nat → Int32) : Prop := ∀ (I6 : Int32 → Int32 → (Nat → Int32) → Prop), (∀ (J6 : Int32 → Int32 → (Nat → Int32) → Prop), (∀ (x5 : Int32) (x6 : Int32) (uR : Nat → Int32), J6 x5 x6 uR → I6 x5 x6 uR) → ∀ (x5 : Int32) (x6 : Int32) (uR : Nat → Int32), B_X7_brings_6 a1 a2 a3 a4 Z J6 x5 x6 uR → I6 x5 x6 uR) → I6 x5 x6 uR
theorem F_X7_brings_6 (a1 : Int32) (a2 : Int32) (a3 : Int32) (a4 : Int32) (Z : Int32 → (Nat → Int32) → Prop) (x5 : Int32) (x6 : Int32) (uR : Nat → Int32) (h : B_X7_brings_6 a1 a2 a3 a4 Z (Wp_X7_brings_6 a1 a2 a3 a4 Z) x5 x6 uR) : Wp_X7_brings_6 a1 a2 a3 a4 Z x5 x6 uR := fun I6 h6 => h6 _ (fun x5 x6 uR hx => hx I6 h6) x5 x6 uR h
def Wp_X7_brings (uR : Nat → Int32) (a1 : Int32) (a2 : Int32) (a3 : Int32) (a4 : Int32) (Z : Int32 → (Nat → Int32) → Prop) : Prop := ((Wp_X7_brings_6 a1 a2 a3 a4 Z) (0 : Int32) a1 uR)
theorem in_X7_brings_X7 : ∀ w ∈ u_ws RX7 TX7 16, w ∈ wsX7_brings := fun w h => List.mem_cons_of_mem _ (List.mem_append_right _ h)
set_option maxHeartbeats 20000000 in
set_option maxRecDepth 100000 in
theorem c_X7_brings (l : Launch) (dC : Nat → ClassId) (dI : Nat → Nat → Nat) (kI kA kC : ClassId) (uo : Nat) (ur : Nat) (ux : Nat) (ut : Nat) (un : Nat) (uf : Nat) (uw : Nat) (ub : Nat) (sz : Nat) (uR : Nat → Int32) (uk : Int32) (uX : Nat → Int32) (ul : Int32) (uT : Nat → Int32) (ui : Int32) (uN : Nat → Int32) (uF : Nat → Int32) (uW : Nat → Int32) (uB : Nat → Int32) (ubw : Int32) (ubu : Int32) (ubd : Int32) (ucm : Int32) (ucw : Int32) (ucf : Int32) (a1 : Int32) (a2 : Int32) (a3 : Int32) (a4 : Int32) (Z : Int32 → (Nat → Int32) → Prop) (hw : Wp_X7_brings uR a1 a2 a3 a4 Z) : zI l yX7_brings wsX7_brings ({ frames := 0, cells := 0, slots := 0, locals := 0 }) dC dI kI kA kC sz 0 0 [.ref uo, .int a1, .int a2, .int a3, .int a4] (kModel kI uo ur ux ut un uf uw ub uR uk uX ul uT ui uN uF uW uB ubw ubu ubd ucm ucw ucf) (fun (r : Int32) (u : (Nat → Int32)) => Z r u) (fun (u : (Nat → Int32)) => (kModel kI uo ur ux ut un uf uw ub u uk uX ul uT ui uN uF uW uB ubw ubu ubd ucm ucw ucf)) := by
  refine zI.of (cc := cX7_brings) (maxL := 7) (ty := .int) (by decide) rfl (Nat.le_of_ble_eq_true rfl) (Or.inl rfl) ?_
  intro p e s m args below meth c A Q C0 hret ls hl
  obtain ⟨hx, hb, hr, hml, hts, hown, hin, hP, hK, hD, hA, hS⟩ := C0
  have hown : s.vm.findClass RX7 = some m.cls := hown
  have hl : lv_has ls 7 [(0, .ref uo), (1, .int a1), (2, .int a2), (3, .int a3), (4, .int a4)] := hl
  have k_31 : ∀ (J6 : Int32 → Int32 → (Nat → Int32) → Prop) (hJ6 : ∀ (x5 : Int32) (x6 : Int32) (uR : Nat → Int32), J6 x5 x6 uR → ∀ (ls : Array Slot) (H : Heap) (locs : List Loc), lv_has ls 7 [(0, .ref uo), (2, .int a2), (3, .int a3), (4, .int a4), (5, .int x5), (6, .int x6)] → va_P (dC, dI) vwCl (kModel kI uo ur ux ut un uf uw ub uR uk uX ul uT ui uN uF uW uB ubw ubu ubd ucm ucw ucf) H → va_D A (kModel kI uo ur ux ut un uf uw ub uR uk uX ul uT ui uN uF uW uB ubw ubu ubd ucm ucw ucf) → va_S A s.heap H locs → W p l e ({ frames := 0, cells := 0, slots := 0, locals := 0 }) s m args below meth c H locs 0 0 Q (F0 m 6 ls [])), ∀ (x5 : Int32) (x6 : Int32) (uR : Nat → Int32) (t0 : Int32), K_X7_brings_31 a1 a2 a3 a4 Z J6 x5 x6 uR t0 → ∀ (ls : Array Slot) (H : Heap) (locs : List Loc), lv_has ls 7 [(0, .ref uo), (2, .int a2), (3, .int a3), (4, .int a4), (5, .int x5), (6, .int x6)] → va_P (dC, dI) vwCl (kModel kI uo ur ux ut un uf uw ub uR uk uX ul uT ui uN uF uW uB ubw ubu ubd ucm ucw ucf) H → va_D A (kModel kI uo ur ux ut un uf uw ub uR uk uX ul uT ui uN uF uW uB ubw ubu ubd ucm ucw ucf) → va_S A s.heap H locs → W p l e ({ frames := 0, cells := 0, slots := 0, locals := 0 }) s m args below meth c H locs 0 0 Q (F0 m 31 ls [.int t0]) := by
    intro J6 hJ6 x5 x6 uR t0 hw ls H locs hl hP hD hS
    unfold K_X7_brings_31 at hw
    refine lv_iload_n hx hb dX7_brings_31 rfl (lv_at hl 2 rfl) ?_
    refine lv_icmp_ne (tgt := 49) hx hb dX7_brings_32 (by decide) (fun c_4 => ?_) (fun c_4 => ?_)
    · have hw := hw.1 c_4
      refine lv_iinc (v := (x6 + (1 : Int32))) (lv' := [(6, .int (x6 + (1 : Int32))), (0, .ref uo), (2, .int a2), (3, .int a3), (4, .int a4), (5, .int x5)]) hx hb dX7_brings_49 hl (k := 5) rfl (by first | rfl | decide) (by decide) rfl (fun ls hl => ?_)
      refine lv_goto (tgt := 6) hx hb dX7_brings_52 (by decide) ?_
      exact hJ6 x5 (x6 + (1 : Int32)) uR hw ls _ _ (lv_sub hl [1, 2, 3, 4, 5, 0] rfl) hP hD hS
    · have hw := hw.2 c_4
      refine lv_aload_n hx hb dX7_brings_35 rfl (lv_at hl 0 rfl) ?_
      refine va_get (D := (dC, dI)) (ci := 7) (v := .ref ur) (C := RX7) (T := TX7) (N := 16) hx hb hts in_X7_brings_X7 hown hK hP 0 rfl rfl 0 (by decide) (hts (.fieldLink RX7 7 "CakeMarksModel" "row" "[I") (List.mem_of_getElem? (i := 1) rfl)) (fun _ h9 => h9) rfl dX7_brings_36 ?_
      refine lv_iconst (v := (1 : Int32)) hx hb dX7_brings_39 (by decide) ?_
      refine lv_iload hx hb dX7_brings_40 (lv_at hl 5 rfl) ?_
      refine lv_iadd hx hb dX7_brings_42 ?_
      refine lv_iload hx hb dX7_brings_43 (lv_at hl 3 rfl) ?_
      obtain ⟨h_5, hw⟩ := hw
      refine va_iast hx hb hK hP hD hS 1 0 rfl rfl h_5 dX7_brings_45 (fun H locs hP hD hS => ?_)
      have hP : va_P (dC, dI) vwCl (kModel kI uo ur ux ut un uf uw ub (upd uR ((1 : Int32) + x6).toNatClampNeg a4) uk uX ul uT ui uN uF uW uB ubw ubu ubd ucm ucw ucf) H := hP
      have hD : va_D A (kModel kI uo ur ux ut un uf uw ub (upd uR ((1 : Int32) + x6).toNatClampNeg a4) uk uX ul uT ui uN uF uW uB ubw ubu ubd ucm ucw ucf) := hD
      refine lv_iinc (v := (x5 + (1 : Int32))) (lv' := [(5, .int (x5 + (1 : Int32))), (0, .ref uo), (2, .int a2), (3, .int a3), (4, .int a4), (6, .int x6)]) hx hb dX7_brings_46 hl (k := 4) rfl (by first | rfl | decide) (by decide) rfl (fun ls hl => ?_)
      refine lv_iinc (v := (x6 + (1 : Int32))) (lv' := [(6, .int (x6 + (1 : Int32))), (5, .int (x5 + (1 : Int32))), (0, .ref uo), (2, .int a2), (3, .int a3), (4, .int a4)]) hx hb dX7_brings_49 hl (k := 5) rfl (by first | rfl | decide) (by decide) rfl (fun ls hl => ?_)
      refine lv_goto (tgt := 6) hx hb dX7_brings_52 (by decide) ?_
      exact hJ6 (x5 + (1 : Int32)) (x6 + (1 : Int32)) (upd uR ((1 : Int32) + x6).toNatClampNeg a4) hw ls _ _ (lv_sub hl [2, 3, 4, 5, 1, 0] rfl) hP hD hS
  have key : ∀ (J6 : Int32 → Int32 → (Nat → Int32) → Prop) (hJ6 : ∀ (x5 : Int32) (x6 : Int32) (uR : Nat → Int32), J6 x5 x6 uR → ∀ (ls : Array Slot) (H : Heap) (locs : List Loc), lv_has ls 7 [(0, .ref uo), (2, .int a2), (3, .int a3), (4, .int a4), (5, .int x5), (6, .int x6)] → va_P (dC, dI) vwCl (kModel kI uo ur ux ut un uf uw ub uR uk uX ul uT ui uN uF uW uB ubw ubu ubd ucm ucw ucf) H → va_D A (kModel kI uo ur ux ut un uf uw ub uR uk uX ul uT ui uN uF uW uB ubw ubu ubd ucm ucw ucf) → va_S A s.heap H locs → W p l e ({ frames := 0, cells := 0, slots := 0, locals := 0 }) s m args below meth c H locs 0 0 Q (F0 m 6 ls [])), (∀ (x5 : Int32) (x6 : Int32) (uR : Nat → Int32), B_X7_brings_6 a1 a2 a3 a4 Z J6 x5 x6 uR → ∀ (ls : Array Slot) (H : Heap) (locs : List Loc), lv_has ls 7 [(0, .ref uo), (2, .int a2), (3, .int a3), (4, .int a4), (5, .int x5), (6, .int x6)] → va_P (dC, dI) vwCl (kModel kI uo ur ux ut un uf uw ub uR uk uX ul uT ui uN uF uW uB ubw ubu ubd ucm ucw ucf) H → va_D A (kModel kI uo ur ux ut un uf uw ub uR uk uX ul uT ui uN uF uW uB ubw ubu ubd ucm ucw ucf) → va_S A s.heap H locs → W p l e ({ frames := 0, cells := 0, slots := 0, locals := 0 }) s m args below meth c H locs 0 0 Q (F0 m 6 ls [])) := by
    intro J6 hJ6
    · intro x5 x6 uR hw ls H locs hl hP hD hS
      unfold B_X7_brings_6 at hw
      refine lv_iload hx hb dX7_brings_6 (lv_at hl 5 rfl) ?_
      refine lv_iload_n hx hb dX7_brings_8 rfl (lv_at hl 1 rfl) ?_
      refine lv_icmp_gt (tgt := 55) hx hb dX7_brings_9 (by decide) (fun c_1 => ?_) (fun c_1 => ?_)
      · have hw := hw.1 c_1
        refine lv_iload hx hb dX7_brings_55 (lv_at hl 4 rfl) ?_
        exact hret 57 x5 uR _ _ _ (fun h => absurd h (by decide)) hw hP hD hS dX7_brings_57
      · have hw := hw.2 c_1
        refine lv_aload_n hx hb dX7_brings_12 rfl (lv_at hl 0 rfl) ?_
        refine va_get (D := (dC, dI)) (ci := 7) (v := .ref ur) (C := RX7) (T := TX7) (N := 16) hx hb hts in_X7_brings_X7 hown hK hP 0 rfl rfl 0 (by decide) (hts (.fieldLink RX7 7 "CakeMarksModel" "row" "[I") (List.mem_of_getElem? (i := 1) rfl)) (fun _ h9 => h9) rfl dX7_brings_13 ?_
        refine lv_iconst (v := (1 : Int32)) hx hb dX7_brings_16 (by decide) ?_
        refine lv_iload hx hb dX7_brings_17 (lv_at hl 5 rfl) ?_
        refine lv_iadd hx hb dX7_brings_19 ?_
        obtain ⟨h_2, hw⟩ := hw
        refine va_iald hx hb hK hP 1 0 rfl rfl h_2 dX7_brings_20 ?_
        refine lv_bipush (v := (-9 : Int32)) hx hb dX7_brings_21 (by decide) ?_
        refine lv_icmp_ne (tgt := 30) hx hb dX7_brings_23 (by decide) (fun c_3 => ?_) (fun c_3 => ?_)
        · have hw := hw.1 c_3
          refine lv_iconst (v := (0 : Int32)) hx hb dX7_brings_30 (by decide) ?_
          exact k_31 _ hJ6 x5 x6 uR (0 : Int32) hw ls _ _ (lv_sub hl [0, 1, 2, 3, 4, 5] rfl) hP hD hS
        · have hw := hw.2 c_3
          refine lv_iconst (v := (1 : Int32)) hx hb dX7_brings_26 (by decide) ?_
          refine lv_goto (tgt := 31) hx hb dX7_brings_27 (by decide) ?_
          exact k_31 _ hJ6 x5 x6 uR (1 : Int32) hw ls _ _ (lv_sub hl [0, 1, 2, 3, 4, 5] rfl) hP hD hS
  have hJ6 : ∀ (x5 : Int32) (x6 : Int32) (uR : Nat → Int32), Wp_X7_brings_6 a1 a2 a3 a4 Z x5 x6 uR → ∀ (ls : Array Slot) (H : Heap) (locs : List Loc), lv_has ls 7 [(0, .ref uo), (2, .int a2), (3, .int a3), (4, .int a4), (5, .int x5), (6, .int x6)] → va_P (dC, dI) vwCl (kModel kI uo ur ux ut un uf uw ub uR uk uX ul uT ui uN uF uW uB ubw ubu ubd ucm ucw ucf) H → va_D A (kModel kI uo ur ux ut un uf uw ub uR uk uX ul uT ui uN uF uW uB ubw ubu ubd ucm ucw ucf) → va_S A s.heap H locs → W p l e ({ frames := 0, cells := 0, slots := 0, locals := 0 }) s m args below meth c H locs 0 0 Q (F0 m 6 ls []) := fun x5 x6 uR hv => hv (fun x5 x6 uR => ∀ (ls : Array Slot) (H : Heap) (locs : List Loc), lv_has ls 7 [(0, .ref uo), (2, .int a2), (3, .int a3), (4, .int a4), (5, .int x5), (6, .int x6)] → va_P (dC, dI) vwCl (kModel kI uo ur ux ut un uf uw ub uR uk uX ul uT ui uN uF uW uB ubw ubu ubd ucm ucw ucf) H → va_D A (kModel kI uo ur ux ut un uf uw ub uR uk uX ul uT ui uN uF uW uB ubw ubu ubd ucm ucw ucf) → va_S A s.heap H locs → W p l e ({ frames := 0, cells := 0, slots := 0, locals := 0 }) s m args below meth c H locs 0 0 Q (F0 m 6 ls [])) (fun J6 q6 => (key J6 q6))
  unfold Wp_X7_brings at hw
  refine lv_iconst (v := (0 : Int32)) hx hb dX7_brings_0 (by decide) ?_
  refine lv_istore (lv' := [(5, .int (0 : Int32)), (0, .ref uo), (1, .int a1), (2, .int a2), (3, .int a3), (4, .int a4)]) hx hb dX7_brings_1 hl (by decide) rfl (fun ls hl => ?_)
  refine lv_iload_n hx hb dX7_brings_3 rfl (lv_at hl 2 rfl) ?_
  refine lv_istore (lv' := [(6, .int a1), (5, .int (0 : Int32)), (0, .ref uo), (1, .int a1), (2, .int a2), (3, .int a3), (4, .int a4)]) hx hb dX7_brings_4 hl (by decide) rfl (fun ls hl => ?_)
  exact hJ6 (0 : Int32) a1 uR hw ls _ _ (lv_sub hl [2, 4, 5, 6, 1, 0] rfl) hP hD hS
-- CakeMarksModel.give(III)I
def Wp_X7_give (uR : Nat → Int32) (uk : Int32) (a1 : Int32) (a2 : Int32) (a3 : Int32) (Z : Int32 → (Nat → Int32) → Int32 → Prop) : Prop := (Wp_X7_isGuest uR a1 (fun r_1 => ((r_1 = (0 : Int32) → (Z (-1 : Int32) uR uk)) ∧ (¬ r_1 = (0 : Int32) → (Wp_X7_isSpan a2 a3 (fun r_3 => ((¬ r_3 = (0 : Int32) → (Wp_X7_records uR uk (fun uR_5 uk_6 => (Wp_X7_brings uR_5 a2 a3 (1 : Int32) a1 (fun r_8 uR_7 => (Z r_8 uR_7 uk_6)))))) ∧ (r_3 = (0 : Int32) → (Z (-1 : Int32) uR uk)))))))))
set_option maxHeartbeats 20000000 in
set_option maxRecDepth 100000 in
theorem c_X7_give (l : Launch) (dC : Nat → ClassId) (dI : Nat → Nat → Nat) (kI kA kC : ClassId) (uo : Nat) (ur : Nat) (ux : Nat) (ut : Nat) (un : Nat) (uf : Nat) (uw : Nat) (ub : Nat) (sz : Nat) (uR : Nat → Int32) (uk : Int32) (uX : Nat → Int32) (ul : Int32) (uT : Nat → Int32) (ui : Int32) (uN : Nat → Int32) (uF : Nat → Int32) (uW : Nat → Int32) (uB : Nat → Int32) (ubw : Int32) (ubu : Int32) (ubd : Int32) (ucm : Int32) (ucw : Int32) (ucf : Int32) (a1 : Int32) (a2 : Int32) (a3 : Int32) (Z : Int32 → (Nat → Int32) → Int32 → Prop) (hw : Wp_X7_give uR uk a1 a2 a3 Z) : zI l yX7_give wsX7_give ({ frames := 2, cells := 0, slots := 0, locals := 44 }) dC dI kI kA kC sz 0 0 [.ref uo, .int a1, .int a2, .int a3] (kModel kI uo ur ux ut un uf uw ub uR uk uX ul uT ui uN uF uW uB ubw ubu ubd ucm ucw ucf) (fun (r : Int32) (u : (Nat → Int32) × Int32) => Z r u.1 u.2) (fun (u : (Nat → Int32) × Int32) => (kModel kI uo ur ux ut un uf uw ub u.1 u.2 uX ul uT ui uN uF uW uB ubw ubu ubd ucm ucw ucf)) := by
  refine zI.of (cc := cX7_give) (maxL := 4) (ty := .int) (by decide) rfl (Nat.le_of_ble_eq_true rfl) (Or.inl rfl) ?_
  intro p e s m args below meth c A Q C0 hret ls hl
  obtain ⟨hx, hb, hr, hml, hts, hown, hin, hP, hK, hD, hA, hS⟩ := C0
  have hown : s.vm.findClass RX7 = some m.cls := hown
  have hl : lv_has ls 4 [(0, .ref uo), (1, .int a1), (2, .int a2), (3, .int a3)] := hl
  unfold Wp_X7_give at hw
  refine lv_aload_n hx hb dX7_give_0 rfl (lv_at hl 0 rfl) ?_
  refine lv_iload_n hx hb dX7_give_1 rfl (lv_at hl 1 rfl) ?_
  refine zcallI (ci := 7) (q0 := 0) (As := [.int a1]) (rest := []) (wr := ([] : va_W)) (Wn := fun u => (kModel kI uo ur ux ut un uf uw ub uR uk uX ul uT ui uN uF uW uB ubw ubu ubd ucm ucw ucf)) ⟨hx, hb, hml, hown, hts⟩ (c_X7_isGuest l dC dI kI kA kC uo ur ux ut un uf uw ub _ uR uk uX ul uT ui uN uF uW uB ubw ubu ubd ucm ucw ucf a1 _ hw) (cwV 1 hts gX7_give_X7_isGuest rfl rfl rfl (by decide +kernel) ⟨Nat.le_of_ble_eq_true rfl, Nat.le_of_ble_eq_true rfl⟩) hK hP hD hS hA [0, 1, 2, 3, 4, 5, 6, 7] [] [0, 1, 2, 3, 4, 5, 6, 7] rfl rfl (by decide) (by decide) (by decide) (fun u => rfl) (by decide) rfl rfl rfl rfl hl.1 rfl (Nat.le_of_ble_eq_true rfl) dX7_give_2 ⟨Nat.zero_le _, Nat.zero_le _⟩ (fun r_1 u H locs hw hP hD hS => ?_)
  have hP : va_P (dC, dI) vwCl (kModel kI uo ur ux ut un uf uw ub uR uk uX ul uT ui uN uF uW uB ubw ubu ubd ucm ucw ucf) H := hP
  have hD : va_D A (kModel kI uo ur ux ut un uf uw ub uR uk uX ul uT ui uN uF uW uB ubw ubu ubd ucm ucw ucf) := hD
  refine lv_if_eq (tgt := 16) hx hb dX7_give_5 (by decide) (fun c_2 => ?_) (fun c_2 => ?_)
  · have hw := hw.1 c_2
    refine lv_iconst (v := (-1 : Int32)) hx hb dX7_give_16 (by decide) ?_
    exact hret 17 (-1 : Int32) (uR, uk) _ _ _ (fun h => absurd h (by decide)) hw hP hD hS dX7_give_17
  · have hw := hw.2 c_2
    refine lv_iload_n hx hb dX7_give_8 rfl (lv_at hl 2 rfl) ?_
    refine lv_iload_n hx hb dX7_give_9 rfl (lv_at hl 3 rfl) ?_
    refine zcallS (As := [.int a2, .int a3]) (rest := []) (wr := (kModel kI uo ur ux ut un uf uw ub uR uk uX ul uT ui uN uF uW uB ubw ubu ubd ucm ucw ucf)) (Wn := fun u => (kModel kI uo ur ux ut un uf uw ub uR uk uX ul uT ui uN uF uW uB ubw ubu ubd ucm ucw ucf)) ⟨hx, hb, hml, hown, hts⟩ (c_X7_isSpan l dC dI kI kA kC _ a2 a3 _ hw) (va_cwS 2 hts gX7_give_X7_isSpan rfl rfl rfl (by decide +kernel) ⟨Nat.le_of_ble_eq_true rfl, Nat.le_of_ble_eq_true rfl⟩) hK hP hD hS hA [] [0, 1, 2, 3, 4, 5, 6, 7] [0, 1, 2, 3, 4, 5, 6, 7] rfl rfl (by decide) (by decide) (by decide) (fun u => rfl) (by decide) rfl hl.1 rfl (Nat.le_of_ble_eq_true rfl) dX7_give_10 ⟨Nat.zero_le _, Nat.zero_le _⟩ (fun r_3 u H locs hw hP hD hS => ?_)
    have hP : va_P (dC, dI) vwCl (kModel kI uo ur ux ut un uf uw ub uR uk uX ul uT ui uN uF uW uB ubw ubu ubd ucm ucw ucf) H := hP
    have hD : va_D A (kModel kI uo ur ux ut un uf uw ub uR uk uX ul uT ui uN uF uW uB ubw ubu ubd ucm ucw ucf) := hD
    refine lv_if_ne (tgt := 18) hx hb dX7_give_13 (by decide) (fun c_4 => ?_) (fun c_4 => ?_)
    · have hw := hw.1 c_4
      refine lv_aload_n hx hb dX7_give_18 rfl (lv_at hl 0 rfl) ?_
      refine zcallV (ci := 7) (q0 := 0) (As := []) (rest := []) (wr := ([] : va_W)) (Wn := fun u => (kModel kI uo ur ux ut un uf uw ub u.1 u.2 uX ul uT ui uN uF uW uB ubw ubu ubd ucm ucw ucf)) ⟨hx, hb, hml, hown, hts⟩ (c_X7_records l dC dI kI kA kC uo ur ux ut un uf uw ub _ uR uk uX ul uT ui uN uF uW uB ubw ubu ubd ucm ucw ucf _ hw) (cwV 0 hts gX7_give_X7_records rfl rfl rfl (by decide +kernel) ⟨Nat.le_of_ble_eq_true rfl, Nat.le_of_ble_eq_true rfl⟩) hK hP hD hS hA [0, 1, 2, 3, 4, 5, 6, 7] [] [0, 1, 2, 3, 4, 5, 6, 7] rfl rfl (by decide) (by decide) (by decide) (fun u => rfl) (by decide) rfl rfl rfl rfl hl.1 rfl (Nat.le_of_ble_eq_true rfl) dX7_give_19 ⟨Nat.zero_le _, Nat.zero_le _⟩ (fun u H locs hw hP hD hS => ?_)
      obtain ⟨uR_5, uk_6⟩ := u
      have hP : va_P (dC, dI) vwCl (kModel kI uo ur ux ut un uf uw ub uR_5 uk_6 uX ul uT ui uN uF uW uB ubw ubu ubd ucm ucw ucf) H := hP
      have hD : va_D A (kModel kI uo ur ux ut un uf uw ub uR_5 uk_6 uX ul uT ui uN uF uW uB ubw ubu ubd ucm ucw ucf) := hD
      refine lv_aload_n hx hb dX7_give_22 rfl (lv_at hl 0 rfl) ?_
      refine lv_iload_n hx hb dX7_give_23 rfl (lv_at hl 2 rfl) ?_
      refine lv_iload_n hx hb dX7_give_24 rfl (lv_at hl 3 rfl) ?_
      refine lv_iconst (v := (1 : Int32)) hx hb dX7_give_25 (by decide) ?_
      refine lv_iload_n hx hb dX7_give_26 rfl (lv_at hl 1 rfl) ?_
      refine zcallI (ci := 7) (q0 := 0) (As := [.int a2, .int a3, .int (1 : Int32), .int a1]) (rest := []) (wr := ([] : va_W)) (Wn := fun u => (kModel kI uo ur ux ut un uf uw ub u uk_6 uX ul uT ui uN uF uW uB ubw ubu ubd ucm ucw ucf)) ⟨hx, hb, hml, hown, hts⟩ (c_X7_brings l dC dI kI kA kC uo ur ux ut un uf uw ub _ uR_5 uk_6 uX ul uT ui uN uF uW uB ubw ubu ubd ucm ucw ucf a2 a3 (1 : Int32) a1 _ hw) (cwV 4 hts gX7_give_X7_brings rfl rfl rfl (by decide +kernel) ⟨Nat.le_of_ble_eq_true rfl, Nat.le_of_ble_eq_true rfl⟩) hK hP hD hS hA [0, 1, 2, 3, 4, 5, 6, 7] [] [0, 1, 2, 3, 4, 5, 6, 7] rfl rfl (by decide) (by decide) (by decide) (fun u => rfl) (by decide) rfl rfl rfl rfl hl.1 rfl (Nat.le_of_ble_eq_true rfl) dX7_give_27 ⟨Nat.zero_le _, Nat.zero_le _⟩ (fun r_8 uR_7 H locs hw hP hD hS => ?_)
      have hP : va_P (dC, dI) vwCl (kModel kI uo ur ux ut un uf uw ub uR_7 uk_6 uX ul uT ui uN uF uW uB ubw ubu ubd ucm ucw ucf) H := hP
      have hD : va_D A (kModel kI uo ur ux ut un uf uw ub uR_7 uk_6 uX ul uT ui uN uF uW uB ubw ubu ubd ucm ucw ucf) := hD
      exact hret 30 r_8 (uR_7, uk_6) _ _ _ (fun h => absurd h (by decide)) hw hP hD hS dX7_give_30
    · have hw := hw.2 c_4
      refine lv_iconst (v := (-1 : Int32)) hx hb dX7_give_16 (by decide) ?_
      exact hret 17 (-1 : Int32) (uR, uk) _ _ _ (fun h => absurd h (by decide)) hw hP hD hS dX7_give_17
-- CakeMarksModel.putBack(II)I
def Wp_X7_putBack (uR : Nat → Int32) (uk : Int32) (a1 : Int32) (a2 : Int32) (Z : Int32 → (Nat → Int32) → Int32 → Prop) : Prop := (Wp_X7_isSpan a1 a2 (fun r_1 => ((¬ r_1 = (0 : Int32) → (Wp_X7_records uR uk (fun uR_3 uk_4 => (Wp_X7_brings uR_3 a1 a2 (0 : Int32) (-9 : Int32) (fun r_6 uR_5 => (Z r_6 uR_5 uk_4)))))) ∧ (r_1 = (0 : Int32) → (Z (-1 : Int32) uR uk)))))
set_option maxHeartbeats 20000000 in
set_option maxRecDepth 100000 in
theorem c_X7_putBack (l : Launch) (dC : Nat → ClassId) (dI : Nat → Nat → Nat) (kI kA kC : ClassId) (uo : Nat) (ur : Nat) (ux : Nat) (ut : Nat) (un : Nat) (uf : Nat) (uw : Nat) (ub : Nat) (sz : Nat) (uR : Nat → Int32) (uk : Int32) (uX : Nat → Int32) (ul : Int32) (uT : Nat → Int32) (ui : Int32) (uN : Nat → Int32) (uF : Nat → Int32) (uW : Nat → Int32) (uB : Nat → Int32) (ubw : Int32) (ubu : Int32) (ubd : Int32) (ucm : Int32) (ucw : Int32) (ucf : Int32) (a1 : Int32) (a2 : Int32) (Z : Int32 → (Nat → Int32) → Int32 → Prop) (hw : Wp_X7_putBack uR uk a1 a2 Z) : zI l yX7_putBack wsX7_putBack ({ frames := 2, cells := 0, slots := 0, locals := 44 }) dC dI kI kA kC sz 0 0 [.ref uo, .int a1, .int a2] (kModel kI uo ur ux ut un uf uw ub uR uk uX ul uT ui uN uF uW uB ubw ubu ubd ucm ucw ucf) (fun (r : Int32) (u : (Nat → Int32) × Int32) => Z r u.1 u.2) (fun (u : (Nat → Int32) × Int32) => (kModel kI uo ur ux ut un uf uw ub u.1 u.2 uX ul uT ui uN uF uW uB ubw ubu ubd ucm ucw ucf)) := by
  refine zI.of (cc := cX7_putBack) (maxL := 3) (ty := .int) (by decide) rfl (Nat.le_of_ble_eq_true rfl) (Or.inl rfl) ?_
  intro p e s m args below meth c A Q C0 hret ls hl
  obtain ⟨hx, hb, hr, hml, hts, hown, hin, hP, hK, hD, hA, hS⟩ := C0
  have hown : s.vm.findClass RX7 = some m.cls := hown
  have hl : lv_has ls 3 [(0, .ref uo), (1, .int a1), (2, .int a2)] := hl
  unfold Wp_X7_putBack at hw
  refine lv_iload_n hx hb dX7_putBack_0 rfl (lv_at hl 1 rfl) ?_
  refine lv_iload_n hx hb dX7_putBack_1 rfl (lv_at hl 2 rfl) ?_
  refine zcallS (As := [.int a1, .int a2]) (rest := []) (wr := (kModel kI uo ur ux ut un uf uw ub uR uk uX ul uT ui uN uF uW uB ubw ubu ubd ucm ucw ucf)) (Wn := fun u => (kModel kI uo ur ux ut un uf uw ub uR uk uX ul uT ui uN uF uW uB ubw ubu ubd ucm ucw ucf)) ⟨hx, hb, hml, hown, hts⟩ (c_X7_isSpan l dC dI kI kA kC _ a1 a2 _ hw) (va_cwS 2 hts gX7_putBack_X7_isSpan rfl rfl rfl (by decide +kernel) ⟨Nat.le_of_ble_eq_true rfl, Nat.le_of_ble_eq_true rfl⟩) hK hP hD hS hA [] [0, 1, 2, 3, 4, 5, 6, 7] [0, 1, 2, 3, 4, 5, 6, 7] rfl rfl (by decide) (by decide) (by decide) (fun u => rfl) (by decide) rfl hl.1 rfl (Nat.le_of_ble_eq_true rfl) dX7_putBack_2 ⟨Nat.zero_le _, Nat.zero_le _⟩ (fun r_1 u H locs hw hP hD hS => ?_)
  have hP : va_P (dC, dI) vwCl (kModel kI uo ur ux ut un uf uw ub uR uk uX ul uT ui uN uF uW uB ubw ubu ubd ucm ucw ucf) H := hP
  have hD : va_D A (kModel kI uo ur ux ut un uf uw ub uR uk uX ul uT ui uN uF uW uB ubw ubu ubd ucm ucw ucf) := hD
  refine lv_if_ne (tgt := 10) hx hb dX7_putBack_5 (by decide) (fun c_2 => ?_) (fun c_2 => ?_)
  · have hw := hw.1 c_2
    refine lv_aload_n hx hb dX7_putBack_10 rfl (lv_at hl 0 rfl) ?_
    refine zcallV (ci := 7) (q0 := 0) (As := []) (rest := []) (wr := ([] : va_W)) (Wn := fun u => (kModel kI uo ur ux ut un uf uw ub u.1 u.2 uX ul uT ui uN uF uW uB ubw ubu ubd ucm ucw ucf)) ⟨hx, hb, hml, hown, hts⟩ (c_X7_records l dC dI kI kA kC uo ur ux ut un uf uw ub _ uR uk uX ul uT ui uN uF uW uB ubw ubu ubd ucm ucw ucf _ hw) (cwV 0 hts gX7_putBack_X7_records rfl rfl rfl (by decide +kernel) ⟨Nat.le_of_ble_eq_true rfl, Nat.le_of_ble_eq_true rfl⟩) hK hP hD hS hA [0, 1, 2, 3, 4, 5, 6, 7] [] [0, 1, 2, 3, 4, 5, 6, 7] rfl rfl (by decide) (by decide) (by decide) (fun u => rfl) (by decide) rfl rfl rfl rfl hl.1 rfl (Nat.le_of_ble_eq_true rfl) dX7_putBack_11 ⟨Nat.zero_le _, Nat.zero_le _⟩ (fun u H locs hw hP hD hS => ?_)
    obtain ⟨uR_3, uk_4⟩ := u
    have hP : va_P (dC, dI) vwCl (kModel kI uo ur ux ut un uf uw ub uR_3 uk_4 uX ul uT ui uN uF uW uB ubw ubu ubd ucm ucw ucf) H := hP
    have hD : va_D A (kModel kI uo ur ux ut un uf uw ub uR_3 uk_4 uX ul uT ui uN uF uW uB ubw ubu ubd ucm ucw ucf) := hD
    refine lv_aload_n hx hb dX7_putBack_14 rfl (lv_at hl 0 rfl) ?_
    refine lv_iload_n hx hb dX7_putBack_15 rfl (lv_at hl 1 rfl) ?_
    refine lv_iload_n hx hb dX7_putBack_16 rfl (lv_at hl 2 rfl) ?_
    refine lv_iconst (v := (0 : Int32)) hx hb dX7_putBack_17 (by decide) ?_
    refine lv_bipush (v := (-9 : Int32)) hx hb dX7_putBack_18 (by decide) ?_
    refine zcallI (ci := 7) (q0 := 0) (As := [.int a1, .int a2, .int (0 : Int32), .int (-9 : Int32)]) (rest := []) (wr := ([] : va_W)) (Wn := fun u => (kModel kI uo ur ux ut un uf uw ub u uk_4 uX ul uT ui uN uF uW uB ubw ubu ubd ucm ucw ucf)) ⟨hx, hb, hml, hown, hts⟩ (c_X7_brings l dC dI kI kA kC uo ur ux ut un uf uw ub _ uR_3 uk_4 uX ul uT ui uN uF uW uB ubw ubu ubd ucm ucw ucf a1 a2 (0 : Int32) (-9 : Int32) _ hw) (cwV 4 hts gX7_putBack_X7_brings rfl rfl rfl (by decide +kernel) ⟨Nat.le_of_ble_eq_true rfl, Nat.le_of_ble_eq_true rfl⟩) hK hP hD hS hA [0, 1, 2, 3, 4, 5, 6, 7] [] [0, 1, 2, 3, 4, 5, 6, 7] rfl rfl (by decide) (by decide) (by decide) (fun u => rfl) (by decide) rfl rfl rfl rfl hl.1 rfl (Nat.le_of_ble_eq_true rfl) dX7_putBack_20 ⟨Nat.zero_le _, Nat.zero_le _⟩ (fun r_6 uR_5 H locs hw hP hD hS => ?_)
    have hP : va_P (dC, dI) vwCl (kModel kI uo ur ux ut un uf uw ub uR_5 uk_4 uX ul uT ui uN uF uW uB ubw ubu ubd ucm ucw ucf) H := hP
    have hD : va_D A (kModel kI uo ur ux ut un uf uw ub uR_5 uk_4 uX ul uT ui uN uF uW uB ubw ubu ubd ucm ucw ucf) := hD
    exact hret 23 r_6 (uR_5, uk_4) _ _ _ (fun h => absurd h (by decide)) hw hP hD hS dX7_putBack_23
  · have hw := hw.2 c_2
    refine lv_iconst (v := (-1 : Int32)) hx hb dX7_putBack_8 (by decide) ?_
    exact hret 9 (-1 : Int32) (uR, uk) _ _ _ (fun h => absurd h (by decide)) hw hP hD hS dX7_putBack_9
-- CakeMarksModel.isMove(II)Z
def Wp_X7_isMove (uR : Nat → Int32) (a1 : Int32) (a2 : Int32) (Z : Int32 → Prop) : Prop := (Wp_X7_in a1 (1 : Int32) (100 : Int32) (fun r_1 => ((r_1 = (0 : Int32) → (Z (0 : Int32))) ∧ (¬ r_1 = (0 : Int32) → (vp_in (0 : Int32) 847 ∧ (Wp_X7_in a2 (1 : Int32) (((1 : Int32) <<< ((uR (0 : Int32).toNatClampNeg) &&& 31)) - (1 : Int32)) (fun r_4 => ((r_4 = (0 : Int32) → (Z (0 : Int32))) ∧ (¬ r_4 = (0 : Int32) → (Z (1 : Int32)))))))))))
theorem in_X7_isMove_X7 : ∀ w ∈ u_ws RX7 TX7 16, w ∈ wsX7_isMove := fun w h => List.mem_cons_of_mem _ (List.mem_append_right _ h)
set_option maxHeartbeats 20000000 in
set_option maxRecDepth 100000 in
theorem c_X7_isMove (l : Launch) (dC : Nat → ClassId) (dI : Nat → Nat → Nat) (kI kA kC : ClassId) (uo : Nat) (ur : Nat) (ux : Nat) (ut : Nat) (un : Nat) (uf : Nat) (uw : Nat) (ub : Nat) (sz : Nat) (uR : Nat → Int32) (uk : Int32) (uX : Nat → Int32) (ul : Int32) (uT : Nat → Int32) (ui : Int32) (uN : Nat → Int32) (uF : Nat → Int32) (uW : Nat → Int32) (uB : Nat → Int32) (ubw : Int32) (ubu : Int32) (ubd : Int32) (ucm : Int32) (ucw : Int32) (ucf : Int32) (a1 : Int32) (a2 : Int32) (Z : Int32 → Prop) (hw : Wp_X7_isMove uR a1 a2 Z) : zI l yX7_isMove wsX7_isMove ({ frames := 1, cells := 0, slots := 0, locals := 22 }) dC dI kI kA kC sz 0 0 [.ref uo, .int a1, .int a2] (kModel kI uo ur ux ut un uf uw ub uR uk uX ul uT ui uN uF uW uB ubw ubu ubd ucm ucw ucf) (fun (r : Int32) (u : Unit) => Z r ) (fun (u : Unit) => (kModel kI uo ur ux ut un uf uw ub uR uk uX ul uT ui uN uF uW uB ubw ubu ubd ucm ucw ucf)) := by
  refine zI.of (cc := cX7_isMove) (maxL := 3) (ty := .boolean) (by decide) rfl (Nat.le_of_ble_eq_true rfl) (Or.inr rfl) ?_
  intro p e s m args below meth c A Q C0 hret ls hl
  obtain ⟨hx, hb, hr, hml, hts, hown, hin, hP, hK, hD, hA, hS⟩ := C0
  have hown : s.vm.findClass RX7 = some m.cls := hown
  have hl : lv_has ls 3 [(0, .ref uo), (1, .int a1), (2, .int a2)] := hl
  unfold Wp_X7_isMove at hw
  refine lv_iload_n hx hb dX7_isMove_0 rfl (lv_at hl 1 rfl) ?_
  refine lv_iconst (v := (1 : Int32)) hx hb dX7_isMove_1 (by decide) ?_
  refine lv_bipush (v := (100 : Int32)) hx hb dX7_isMove_2 (by decide) ?_
  refine zcallS (As := [.int a1, .int (1 : Int32), .int (100 : Int32)]) (rest := []) (wr := (kModel kI uo ur ux ut un uf uw ub uR uk uX ul uT ui uN uF uW uB ubw ubu ubd ucm ucw ucf)) (Wn := fun u => (kModel kI uo ur ux ut un uf uw ub uR uk uX ul uT ui uN uF uW uB ubw ubu ubd ucm ucw ucf)) ⟨hx, hb, hml, hown, hts⟩ (c_X7_in l dC dI kI kA kC _ a1 (1 : Int32) (100 : Int32) _ hw) (va_cwS 3 hts gX7_isMove_X7_in rfl rfl rfl (by decide +kernel) ⟨Nat.le_of_ble_eq_true rfl, Nat.le_of_ble_eq_true rfl⟩) hK hP hD hS hA [] [0, 1, 2, 3, 4, 5, 6, 7] [0, 1, 2, 3, 4, 5, 6, 7] rfl rfl (by decide) (by decide) (by decide) (fun u => rfl) (by decide) rfl hl.1 rfl (Nat.le_of_ble_eq_true rfl) dX7_isMove_4 ⟨Nat.zero_le _, Nat.zero_le _⟩ (fun r_1 u H locs hw hP hD hS => ?_)
  have hP : va_P (dC, dI) vwCl (kModel kI uo ur ux ut un uf uw ub uR uk uX ul uT ui uN uF uW uB ubw ubu ubd ucm ucw ucf) H := hP
  have hD : va_D A (kModel kI uo ur ux ut un uf uw ub uR uk uX ul uT ui uN uF uW uB ubw ubu ubd ucm ucw ucf) := hD
  refine lv_if_eq (tgt := 32) hx hb dX7_isMove_7 (by decide) (fun c_2 => ?_) (fun c_2 => ?_)
  · have hw := hw.1 c_2
    refine lv_iconst (v := (0 : Int32)) hx hb dX7_isMove_32 (by decide) ?_
    exact hret 33 (0 : Int32) () _ _ _ (fun _ => rfl) hw hP hD hS dX7_isMove_33
  · have hw := hw.2 c_2
    refine lv_iload_n hx hb dX7_isMove_10 rfl (lv_at hl 2 rfl) ?_
    refine lv_iconst (v := (1 : Int32)) hx hb dX7_isMove_11 (by decide) ?_
    refine lv_iconst (v := (1 : Int32)) hx hb dX7_isMove_12 (by decide) ?_
    refine lv_aload_n hx hb dX7_isMove_13 rfl (lv_at hl 0 rfl) ?_
    refine va_get (D := (dC, dI)) (ci := 7) (v := .ref ur) (C := RX7) (T := TX7) (N := 16) hx hb hts in_X7_isMove_X7 hown hK hP 0 rfl rfl 0 (by decide) (hts (.fieldLink RX7 7 "CakeMarksModel" "row" "[I") (List.mem_of_getElem? (i := 1) rfl)) (fun _ h9 => h9) rfl dX7_isMove_14 ?_
    refine lv_iconst (v := (0 : Int32)) hx hb dX7_isMove_17 (by decide) ?_
    obtain ⟨h_3, hw⟩ := hw
    refine va_iald hx hb hK hP 1 0 rfl rfl h_3 dX7_isMove_18 ?_
    refine lv_ishl hx hb dX7_isMove_19 ?_
    refine lv_iconst (v := (1 : Int32)) hx hb dX7_isMove_20 (by decide) ?_
    refine lv_isub hx hb dX7_isMove_21 ?_
    refine zcallS (As := [.int a2, .int (1 : Int32), .int (((1 : Int32) <<< ((uR (0 : Int32).toNatClampNeg) &&& 31)) - (1 : Int32))]) (rest := []) (wr := (kModel kI uo ur ux ut un uf uw ub uR uk uX ul uT ui uN uF uW uB ubw ubu ubd ucm ucw ucf)) (Wn := fun u => (kModel kI uo ur ux ut un uf uw ub uR uk uX ul uT ui uN uF uW uB ubw ubu ubd ucm ucw ucf)) ⟨hx, hb, hml, hown, hts⟩ (c_X7_in l dC dI kI kA kC _ a2 (1 : Int32) (((1 : Int32) <<< ((uR (0 : Int32).toNatClampNeg) &&& 31)) - (1 : Int32)) _ hw) (va_cwS 3 hts gX7_isMove_X7_in rfl rfl rfl (by decide +kernel) ⟨Nat.le_of_ble_eq_true rfl, Nat.le_of_ble_eq_true rfl⟩) hK hP hD hS hA [] [0, 1, 2, 3, 4, 5, 6, 7] [0, 1, 2, 3, 4, 5, 6, 7] rfl rfl (by decide) (by decide) (by decide) (fun u => rfl) (by decide) rfl hl.1 rfl (Nat.le_of_ble_eq_true rfl) dX7_isMove_22 ⟨Nat.zero_le _, Nat.zero_le _⟩ (fun r_4 u H locs hw hP hD hS => ?_)
    have hP : va_P (dC, dI) vwCl (kModel kI uo ur ux ut un uf uw ub uR uk uX ul uT ui uN uF uW uB ubw ubu ubd ucm ucw ucf) H := hP
    have hD : va_D A (kModel kI uo ur ux ut un uf uw ub uR uk uX ul uT ui uN uF uW uB ubw ubu ubd ucm ucw ucf) := hD
    refine lv_if_eq (tgt := 32) hx hb dX7_isMove_25 (by decide) (fun c_5 => ?_) (fun c_5 => ?_)
    · have hw := hw.1 c_5
      refine lv_iconst (v := (0 : Int32)) hx hb dX7_isMove_32 (by decide) ?_
      exact hret 33 (0 : Int32) () _ _ _ (fun _ => rfl) hw hP hD hS dX7_isMove_33
    · have hw := hw.2 c_5
      refine lv_iconst (v := (1 : Int32)) hx hb dX7_isMove_28 (by decide) ?_
      refine lv_goto (tgt := 33) hx hb dX7_isMove_29 (by decide) ?_
      exact hret 33 (1 : Int32) () _ _ _ (fun _ => rfl) hw hP hD hS dX7_isMove_33
-- CakeMarksModel.caller(IIII)I
def B_X7_caller_3 (uR : Nat → Int32) (a1 : Int32) (a2 : Int32) (a3 : Int32) (a4 : Int32) (Z : Int32 → Prop) (J3 : Int32 → Prop) (J20 : Int32 → Int32 → Int32 → Prop) (x5 : Int32) : Prop := (vp_in (0 : Int32) 847 ∧ (((uR (0 : Int32).toNatClampNeg) ≤ x5 → (Z (-9 : Int32))) ∧ (¬ (uR (0 : Int32).toNatClampNeg) ≤ x5 → (J20 x5 (0 : Int32) a3))))
def B_X7_caller_20 (uR : Nat → Int32) (a1 : Int32) (a2 : Int32) (a3 : Int32) (a4 : Int32) (Z : Int32 → Prop) (J3 : Int32 → Prop) (J20 : Int32 → Int32 → Int32 → Prop) (x5 : Int32) (x6 : Int32) (x7 : Int32) : Prop := ((a4 < x7 → ((¬ ((a2 >>> (x5 &&& 31)) &&& (1 : Int32)) = (1 : Int32) → (J3 (x5 + (1 : Int32)))) ∧ (((a2 >>> (x5 &&& 31)) &&& (1 : Int32)) = (1 : Int32) → (Wp_X7_total uR x5 (fun r_5 => ((((100 : Int32) * x6) < (a1 * r_5) → (J3 (x5 + (1 : Int32)))) ∧ (¬ ((100 : Int32) * x6) < (a1 * r_5) → (Z x5)))))))) ∧ (¬ a4 < x7 → (vp_in ((1 : Int32) + x7) 847 ∧ ((¬ (uR ((1 : Int32) + x7).toNatClampNeg) = (-9 : Int32) → (J20 x5 (x6 + (0 : Int32)) (x7 + (1 : Int32)))) ∧ ((uR ((1 : Int32) + x7).toNatClampNeg) = (-9 : Int32) → (Wp_X7_valueOf uR x5 x7 (fun r_9 => (J20 x5 (x6 + r_9) (x7 + (1 : Int32))))))))))
def Wp_X7_caller_3 (uR : Nat → Int32) (a1 : Int32) (a2 : Int32) (a3 : Int32) (a4 : Int32) (Z : Int32 → Prop) (x5 : Int32) : Prop := ∀ (I3 : Int32 → Prop) (I20 : Int32 → Int32 → Int32 → Prop), (∀ (J3 : Int32 → Prop) (J20 : Int32 → Int32 → Int32 → Prop), (∀ (x5 : Int32), J3 x5 → I3 x5) → (∀ (x5 : Int32) (x6 : Int32) (x7 : Int32), J20 x5 x6 x7 → I20 x5 x6 x7) → ∀ (x5 : Int32), B_X7_caller_3 uR a1 a2 a3 a4 Z J3 J20 x5 → I3 x5) → (∀ (J3 : Int32 → Prop) (J20 : Int32 → Int32 → Int32 → Prop), (∀ (x5 : Int32), J3 x5 → I3 x5) → (∀ (x5 : Int32) (x6 : Int32) (x7 : Int32), J20 x5 x6 x7 → I20 x5 x6 x7) → ∀ (x5 : Int32) (x6 : Int32) (x7 : Int32), B_X7_caller_20 uR a1 a2 a3 a4 Z J3 J20 x5 x6 x7 → I20 x5 x6 x7) → I3 x5
def Wp_X7_caller_20 (uR : Nat → Int32) (a1 : Int32) (a2 : Int32) (a3 : Int32) (a4 : Int32) (Z : Int32 → Prop) (x5 : Int32) (x6 : Int32) (x7 : Int32) : Prop := ∀ (I3 : Int32 → Prop) (I20 : Int32 → Int32 → Int32 → Prop), (∀ (J3 : Int32 → Prop) (J20 : Int32 → Int32 → Int32 → Prop), (∀ (x5 : Int32), J3 x5 → I3 x5) → (∀ (x5 : Int32) (x6 : Int32) (x7 : Int32), J20 x5 x6 x7 → I20 x5 x6 x7) → ∀ (x5 : Int32), B_X7_caller_3 uR a1 a2 a3 a4 Z J3 J20 x5 → I3 x5) → (∀ (J3 : Int32 → Prop) (J20 : Int32 → Int32 → Int32 → Prop), (∀ (x5 : Int32), J3 x5 → I3 x5) → (∀ (x5 : Int32) (x6 : Int32) (x7 : Int32), J20 x5 x6 x7 → I20 x5 x6 x7) → ∀ (x5 : Int32) (x6 : Int32) (x7 : Int32), B_X7_caller_20 uR a1 a2 a3 a4 Z J3 J20 x5 x6 x7 → I20 x5 x6 x7) → I20 x5 x6 x7
theorem F_X7_caller_3 (uR : Nat → Int32) (a1 : Int32) (a2 : Int32) (a3 : Int32) (a4 : Int32) (Z : Int32 → Prop) (x5 : Int32) (h : B_X7_caller_3 uR a1 a2 a3 a4 Z (Wp_X7_caller_3 uR a1 a2 a3 a4 Z) (Wp_X7_caller_20 uR a1 a2 a3 a4 Z) x5) : Wp_X7_caller_3 uR a1 a2 a3 a4 Z x5 := fun I3 I20 h3 h20 => h3 _ _ (fun x5 hx => hx I3 I20 h3 h20) (fun x5 x6 x7 hx => hx I3 I20 h3 h20) x5 h
theorem F_X7_caller_20 (uR : Nat → Int32) (a1 : Int32) (a2 : Int32) (a3 : Int32) (a4 : Int32) (Z : Int32 → Prop) (x5 : Int32) (x6 : Int32) (x7 : Int32) (h : B_X7_caller_20 uR a1 a2 a3 a4 Z (Wp_X7_caller_3 uR a1 a2 a3 a4 Z) (Wp_X7_caller_20 uR a1 a2 a3 a4 Z) x5 x6 x7) : Wp_X7_caller_20 uR a1 a2 a3 a4 Z x5 x6 x7 := fun I3 I20 h3 h20 => h20 _ _ (fun x5 hx => hx I3 I20 h3 h20) (fun x5 x6 x7 hx => hx I3 I20 h3 h20) x5 x6 x7 h
def Wp_X7_caller (uR : Nat → Int32) (a1 : Int32) (a2 : Int32) (a3 : Int32) (a4 : Int32) (Z : Int32 → Prop) : Prop := ((Wp_X7_caller_3 uR a1 a2 a3 a4 Z) (0 : Int32))
theorem in_X7_caller_X7 : ∀ w ∈ u_ws RX7 TX7 16, w ∈ wsX7_caller := fun w h => List.mem_cons_of_mem _ (List.mem_append_right _ h)
set_option maxHeartbeats 20000000 in
set_option maxRecDepth 100000 in
theorem c_X7_caller (l : Launch) (dC : Nat → ClassId) (dI : Nat → Nat → Nat) (kI kA kC : ClassId) (uo : Nat) (ur : Nat) (ux : Nat) (ut : Nat) (un : Nat) (uf : Nat) (uw : Nat) (ub : Nat) (sz : Nat) (uR : Nat → Int32) (uk : Int32) (uX : Nat → Int32) (ul : Int32) (uT : Nat → Int32) (ui : Int32) (uN : Nat → Int32) (uF : Nat → Int32) (uW : Nat → Int32) (uB : Nat → Int32) (ubw : Int32) (ubu : Int32) (ubd : Int32) (ucm : Int32) (ucw : Int32) (ucf : Int32) (a1 : Int32) (a2 : Int32) (a3 : Int32) (a4 : Int32) (Z : Int32 → Prop) (hw : Wp_X7_caller uR a1 a2 a3 a4 Z) : zI l yX7_caller wsX7_caller ({ frames := 3, cells := 0, slots := 0, locals := 68 }) dC dI kI kA kC sz 0 0 [.ref uo, .int a1, .int a2, .int a3, .int a4] (kModel kI uo ur ux ut un uf uw ub uR uk uX ul uT ui uN uF uW uB ubw ubu ubd ucm ucw ucf) (fun (r : Int32) (u : Unit) => Z r ) (fun (u : Unit) => (kModel kI uo ur ux ut un uf uw ub uR uk uX ul uT ui uN uF uW uB ubw ubu ubd ucm ucw ucf)) := by
  refine zI.of (cc := cX7_caller) (maxL := 8) (ty := .int) (by decide) rfl (Nat.le_of_ble_eq_true rfl) (Or.inl rfl) ?_
  intro p e s m args below meth c A Q C0 hret ls hl
  obtain ⟨hx, hb, hr, hml, hts, hown, hin, hP, hK, hD, hA, hS⟩ := C0
  have hown : s.vm.findClass RX7 = some m.cls := hown
  have hl : lv_has ls 8 [(0, .ref uo), (1, .int a1), (2, .int a2), (3, .int a3), (4, .int a4)] := hl
  have key : ∀ (J3 : Int32 → Prop) (J20 : Int32 → Int32 → Int32 → Prop) (hJ3 : ∀ (x5 : Int32), J3 x5 → ∀ (ls : Array Slot) (H : Heap) (locs : List Loc), lv_has ls 8 [(0, .ref uo), (1, .int a1), (2, .int a2), (3, .int a3), (4, .int a4), (5, .int x5)] → va_P (dC, dI) vwCl (kModel kI uo ur ux ut un uf uw ub uR uk uX ul uT ui uN uF uW uB ubw ubu ubd ucm ucw ucf) H → va_D A (kModel kI uo ur ux ut un uf uw ub uR uk uX ul uT ui uN uF uW uB ubw ubu ubd ucm ucw ucf) → va_S A s.heap H locs → W p l e ({ frames := 3, cells := 0, slots := 0, locals := 68 }) s m args below meth c H locs 0 0 Q (F0 m 3 ls [])) (hJ20 : ∀ (x5 : Int32) (x6 : Int32) (x7 : Int32), J20 x5 x6 x7 → ∀ (ls : Array Slot) (H : Heap) (locs : List Loc), lv_has ls 8 [(0, .ref uo), (1, .int a1), (2, .int a2), (3, .int a3), (4, .int a4), (5, .int x5), (6, .int x6), (7, .int x7)] → va_P (dC, dI) vwCl (kModel kI uo ur ux ut un uf uw ub uR uk uX ul uT ui uN uF uW uB ubw ubu ubd ucm ucw ucf) H → va_D A (kModel kI uo ur ux ut un uf uw ub uR uk uX ul uT ui uN uF uW uB ubw ubu ubd ucm ucw ucf) → va_S A s.heap H locs → W p l e ({ frames := 3, cells := 0, slots := 0, locals := 68 }) s m args below meth c H locs 0 0 Q (F0 m 20 ls [])), (∀ (x5 : Int32), B_X7_caller_3 uR a1 a2 a3 a4 Z J3 J20 x5 → ∀ (ls : Array Slot) (H : Heap) (locs : List Loc), lv_has ls 8 [(0, .ref uo), (1, .int a1), (2, .int a2), (3, .int a3), (4, .int a4), (5, .int x5)] → va_P (dC, dI) vwCl (kModel kI uo ur ux ut un uf uw ub uR uk uX ul uT ui uN uF uW uB ubw ubu ubd ucm ucw ucf) H → va_D A (kModel kI uo ur ux ut un uf uw ub uR uk uX ul uT ui uN uF uW uB ubw ubu ubd ucm ucw ucf) → va_S A s.heap H locs → W p l e ({ frames := 3, cells := 0, slots := 0, locals := 68 }) s m args below meth c H locs 0 0 Q (F0 m 3 ls [])) ∧ (∀ (x5 : Int32) (x6 : Int32) (x7 : Int32), B_X7_caller_20 uR a1 a2 a3 a4 Z J3 J20 x5 x6 x7 → ∀ (ls : Array Slot) (H : Heap) (locs : List Loc), lv_has ls 8 [(0, .ref uo), (1, .int a1), (2, .int a2), (3, .int a3), (4, .int a4), (5, .int x5), (6, .int x6), (7, .int x7)] → va_P (dC, dI) vwCl (kModel kI uo ur ux ut un uf uw ub uR uk uX ul uT ui uN uF uW uB ubw ubu ubd ucm ucw ucf) H → va_D A (kModel kI uo ur ux ut un uf uw ub uR uk uX ul uT ui uN uF uW uB ubw ubu ubd ucm ucw ucf) → va_S A s.heap H locs → W p l e ({ frames := 3, cells := 0, slots := 0, locals := 68 }) s m args below meth c H locs 0 0 Q (F0 m 20 ls [])) := by
    intro J3 J20 hJ3 hJ20
    refine ⟨?_, ?_⟩
    · intro x5 hw ls H locs hl hP hD hS
      unfold B_X7_caller_3 at hw
      refine lv_iload hx hb dX7_caller_3 (lv_at hl 5 rfl) ?_
      refine lv_aload_n hx hb dX7_caller_5 rfl (lv_at hl 0 rfl) ?_
      refine va_get (D := (dC, dI)) (ci := 7) (v := .ref ur) (C := RX7) (T := TX7) (N := 16) hx hb hts in_X7_caller_X7 hown hK hP 0 rfl rfl 0 (by decide) (hts (.fieldLink RX7 7 "CakeMarksModel" "row" "[I") (List.mem_of_getElem? (i := 1) rfl)) (fun _ h9 => h9) rfl dX7_caller_6 ?_
      refine lv_iconst (v := (0 : Int32)) hx hb dX7_caller_9 (by decide) ?_
      obtain ⟨h_1, hw⟩ := hw
      refine va_iald hx hb hK hP 1 0 rfl rfl h_1 dX7_caller_10 ?_
      refine lv_icmp_ge (tgt := 99) hx hb dX7_caller_11 (by decide) (fun c_2 => ?_) (fun c_2 => ?_)
      · have hw := hw.1 c_2
        refine lv_bipush (v := (-9 : Int32)) hx hb dX7_caller_99 (by decide) ?_
        exact hret 101 (-9 : Int32) () _ _ _ (fun h => absurd h (by decide)) hw hP hD hS dX7_caller_101
      · have hw := hw.2 c_2
        refine lv_iconst (v := (0 : Int32)) hx hb dX7_caller_14 (by decide) ?_
        refine lv_istore (lv' := [(6, .int (0 : Int32)), (0, .ref uo), (1, .int a1), (2, .int a2), (3, .int a3), (4, .int a4), (5, .int x5)]) hx hb dX7_caller_15 hl (by decide) rfl (fun ls hl => ?_)
        refine lv_iload_n hx hb dX7_caller_17 rfl (lv_at hl 4 rfl) ?_
        refine lv_istore (lv' := [(7, .int a3), (6, .int (0 : Int32)), (0, .ref uo), (1, .int a1), (2, .int a2), (3, .int a3), (4, .int a4), (5, .int x5)]) hx hb dX7_caller_18 hl (by decide) rfl (fun ls hl => ?_)
        exact hJ20 x5 (0 : Int32) a3 hw ls _ _ (lv_sub hl [2, 3, 4, 5, 6, 7, 1, 0] rfl) hP hD hS
    · intro x5 x6 x7 hw ls H locs hl hP hD hS
      unfold B_X7_caller_20 at hw
      refine lv_iload hx hb dX7_caller_20 (lv_at hl 7 rfl) ?_
      refine lv_iload hx hb dX7_caller_22 (lv_at hl 4 rfl) ?_
      refine lv_icmp_gt (tgt := 64) hx hb dX7_caller_24 (by decide) (fun c_3 => ?_) (fun c_3 => ?_)
      · have hw := hw.1 c_3
        refine lv_iload_n hx hb dX7_caller_64 rfl (lv_at hl 2 rfl) ?_
        refine lv_iload hx hb dX7_caller_65 (lv_at hl 5 rfl) ?_
        refine lv_ishr hx hb dX7_caller_67 ?_
        refine lv_iconst (v := (1 : Int32)) hx hb dX7_caller_68 (by decide) ?_
        refine lv_iand hx hb dX7_caller_69 ?_
        refine lv_iconst (v := (1 : Int32)) hx hb dX7_caller_70 (by decide) ?_
        refine lv_icmp_ne (tgt := 93) hx hb dX7_caller_71 (by decide) (fun c_4 => ?_) (fun c_4 => ?_)
        · have hw := hw.1 c_4
          refine lv_iinc (v := (x5 + (1 : Int32))) (lv' := [(5, .int (x5 + (1 : Int32))), (0, .ref uo), (1, .int a1), (2, .int a2), (3, .int a3), (4, .int a4), (6, .int x6), (7, .int x7)]) hx hb dX7_caller_93 hl (k := 5) rfl (by first | rfl | decide) (by decide) rfl (fun ls hl => ?_)
          refine lv_goto (tgt := 3) hx hb dX7_caller_96 (by decide) ?_
          exact hJ3 (x5 + (1 : Int32)) hw ls _ _ (lv_sub hl [1, 2, 3, 4, 5, 0] rfl) hP hD hS
        · have hw := hw.2 c_4
          refine lv_bipush (v := (100 : Int32)) hx hb dX7_caller_74 (by decide) ?_
          refine lv_iload hx hb dX7_caller_76 (lv_at hl 6 rfl) ?_
          refine lv_imul hx hb dX7_caller_78 ?_
          refine lv_iload_n hx hb dX7_caller_79 rfl (lv_at hl 1 rfl) ?_
          refine lv_aload_n hx hb dX7_caller_80 rfl (lv_at hl 0 rfl) ?_
          refine lv_iload hx hb dX7_caller_81 (lv_at hl 5 rfl) ?_
          refine zcallI (ci := 7) (q0 := 0) (As := [.int x5]) (rest := [.int a1, .int ((100 : Int32) * x6)]) (wr := ([] : va_W)) (Wn := fun u => (kModel kI uo ur ux ut un uf uw ub uR uk uX ul uT ui uN uF uW uB ubw ubu ubd ucm ucw ucf)) ⟨hx, hb, hml, hown, hts⟩ (c_X7_total l dC dI kI kA kC uo ur ux ut un uf uw ub _ uR uk uX ul uT ui uN uF uW uB ubw ubu ubd ucm ucw ucf x5 _ hw) (cwV 1 hts gX7_caller_X7_total rfl rfl rfl (by decide +kernel) ⟨Nat.le_of_ble_eq_true rfl, Nat.le_of_ble_eq_true rfl⟩) hK hP hD hS hA [0, 1, 2, 3, 4, 5, 6, 7] [] [0, 1, 2, 3, 4, 5, 6, 7] rfl rfl (by decide) (by decide) (by decide) (fun u => rfl) (by decide) rfl rfl rfl rfl hl.1 rfl (Nat.le_of_ble_eq_true rfl) dX7_caller_83 ⟨Nat.zero_le _, Nat.zero_le _⟩ (fun r_5 u H locs hw hP hD hS => ?_)
          have hP : va_P (dC, dI) vwCl (kModel kI uo ur ux ut un uf uw ub uR uk uX ul uT ui uN uF uW uB ubw ubu ubd ucm ucw ucf) H := hP
          have hD : va_D A (kModel kI uo ur ux ut un uf uw ub uR uk uX ul uT ui uN uF uW uB ubw ubu ubd ucm ucw ucf) := hD
          refine lv_imul hx hb dX7_caller_86 ?_
          refine lv_icmp_lt (tgt := 93) hx hb dX7_caller_87 (by decide) (fun c_6 => ?_) (fun c_6 => ?_)
          · have hw := hw.1 c_6
            refine lv_iinc (v := (x5 + (1 : Int32))) (lv' := [(5, .int (x5 + (1 : Int32))), (0, .ref uo), (1, .int a1), (2, .int a2), (3, .int a3), (4, .int a4), (6, .int x6), (7, .int x7)]) hx hb dX7_caller_93 hl (k := 5) rfl (by first | rfl | decide) (by decide) rfl (fun ls hl => ?_)
            refine lv_goto (tgt := 3) hx hb dX7_caller_96 (by decide) ?_
            exact hJ3 (x5 + (1 : Int32)) hw ls _ _ (lv_sub hl [1, 2, 3, 4, 5, 0] rfl) hP hD hS
          · have hw := hw.2 c_6
            refine lv_iload hx hb dX7_caller_90 (lv_at hl 5 rfl) ?_
            exact hret 92 x5 () _ _ _ (fun h => absurd h (by decide)) hw hP hD hS dX7_caller_92
      · have hw := hw.2 c_3
        refine lv_iload hx hb dX7_caller_27 (lv_at hl 6 rfl) ?_
        refine lv_aload_n hx hb dX7_caller_29 rfl (lv_at hl 0 rfl) ?_
        refine va_get (D := (dC, dI)) (ci := 7) (v := .ref ur) (C := RX7) (T := TX7) (N := 16) hx hb hts in_X7_caller_X7 hown hK hP 0 rfl rfl 0 (by decide) (hts (.fieldLink RX7 7 "CakeMarksModel" "row" "[I") (List.mem_of_getElem? (i := 1) rfl)) (fun _ h9 => h9) rfl dX7_caller_30 ?_
        refine lv_iconst (v := (1 : Int32)) hx hb dX7_caller_33 (by decide) ?_
        refine lv_iload hx hb dX7_caller_34 (lv_at hl 7 rfl) ?_
        refine lv_iadd hx hb dX7_caller_36 ?_
        obtain ⟨h_7, hw⟩ := hw
        refine va_iald hx hb hK hP 1 0 rfl rfl h_7 dX7_caller_37 ?_
        refine lv_bipush (v := (-9 : Int32)) hx hb dX7_caller_38 (by decide) ?_
        refine lv_icmp_ne (tgt := 54) hx hb dX7_caller_40 (by decide) (fun c_8 => ?_) (fun c_8 => ?_)
        · have hw := hw.1 c_8
          refine lv_iconst (v := (0 : Int32)) hx hb dX7_caller_54 (by decide) ?_
          refine lv_iadd hx hb dX7_caller_55 ?_
          refine lv_istore (lv' := [(6, .int (x6 + (0 : Int32))), (0, .ref uo), (1, .int a1), (2, .int a2), (3, .int a3), (4, .int a4), (5, .int x5), (7, .int x7)]) hx hb dX7_caller_56 hl (by decide) rfl (fun ls hl => ?_)
          refine lv_iinc (v := (x7 + (1 : Int32))) (lv' := [(7, .int (x7 + (1 : Int32))), (6, .int (x6 + (0 : Int32))), (0, .ref uo), (1, .int a1), (2, .int a2), (3, .int a3), (4, .int a4), (5, .int x5)]) hx hb dX7_caller_58 hl (k := 7) rfl (by first | rfl | decide) (by decide) rfl (fun ls hl => ?_)
          refine lv_goto (tgt := 20) hx hb dX7_caller_61 (by decide) ?_
          exact hJ20 x5 (x6 + (0 : Int32)) (x7 + (1 : Int32)) hw ls _ _ (lv_sub hl [2, 3, 4, 5, 6, 7, 1, 0] rfl) hP hD hS
        · have hw := hw.2 c_8
          refine lv_aload_n hx hb dX7_caller_43 rfl (lv_at hl 0 rfl) ?_
          refine lv_iload hx hb dX7_caller_44 (lv_at hl 5 rfl) ?_
          refine lv_iload hx hb dX7_caller_46 (lv_at hl 7 rfl) ?_
          refine zcallI (ci := 7) (q0 := 0) (As := [.int x5, .int x7]) (rest := [.int x6]) (wr := ([] : va_W)) (Wn := fun u => (kModel kI uo ur ux ut un uf uw ub uR uk uX ul uT ui uN uF uW uB ubw ubu ubd ucm ucw ucf)) ⟨hx, hb, hml, hown, hts⟩ (c_X7_valueOf l dC dI kI kA kC uo ur ux ut un uf uw ub _ uR uk uX ul uT ui uN uF uW uB ubw ubu ubd ucm ucw ucf x5 x7 _ hw) (cwV 2 hts gX7_caller_X7_valueOf rfl rfl rfl (by decide +kernel) ⟨Nat.le_of_ble_eq_true rfl, Nat.le_of_ble_eq_true rfl⟩) hK hP hD hS hA [0, 1, 2, 3, 4, 5, 6, 7] [] [0, 1, 2, 3, 4, 5, 6, 7] rfl rfl (by decide) (by decide) (by decide) (fun u => rfl) (by decide) rfl rfl rfl rfl hl.1 rfl (Nat.le_of_ble_eq_true rfl) dX7_caller_48 ⟨Nat.zero_le _, Nat.zero_le _⟩ (fun r_9 u H locs hw hP hD hS => ?_)
          have hP : va_P (dC, dI) vwCl (kModel kI uo ur ux ut un uf uw ub uR uk uX ul uT ui uN uF uW uB ubw ubu ubd ucm ucw ucf) H := hP
          have hD : va_D A (kModel kI uo ur ux ut un uf uw ub uR uk uX ul uT ui uN uF uW uB ubw ubu ubd ucm ucw ucf) := hD
          refine lv_goto (tgt := 55) hx hb dX7_caller_51 (by decide) ?_
          refine lv_iadd hx hb dX7_caller_55 ?_
          refine lv_istore (lv' := [(6, .int (x6 + r_9)), (0, .ref uo), (1, .int a1), (2, .int a2), (3, .int a3), (4, .int a4), (5, .int x5), (7, .int x7)]) hx hb dX7_caller_56 hl (by decide) rfl (fun ls hl => ?_)
          refine lv_iinc (v := (x7 + (1 : Int32))) (lv' := [(7, .int (x7 + (1 : Int32))), (6, .int (x6 + r_9)), (0, .ref uo), (1, .int a1), (2, .int a2), (3, .int a3), (4, .int a4), (5, .int x5)]) hx hb dX7_caller_58 hl (k := 7) rfl (by first | rfl | decide) (by decide) rfl (fun ls hl => ?_)
          refine lv_goto (tgt := 20) hx hb dX7_caller_61 (by decide) ?_
          exact hJ20 x5 (x6 + r_9) (x7 + (1 : Int32)) hw ls _ _ (lv_sub hl [2, 3, 4, 5, 6, 7, 1, 0] rfl) hP hD hS
  have hJ3 : ∀ (x5 : Int32), Wp_X7_caller_3 uR a1 a2 a3 a4 Z x5 → ∀ (ls : Array Slot) (H : Heap) (locs : List Loc), lv_has ls 8 [(0, .ref uo), (1, .int a1), (2, .int a2), (3, .int a3), (4, .int a4), (5, .int x5)] → va_P (dC, dI) vwCl (kModel kI uo ur ux ut un uf uw ub uR uk uX ul uT ui uN uF uW uB ubw ubu ubd ucm ucw ucf) H → va_D A (kModel kI uo ur ux ut un uf uw ub uR uk uX ul uT ui uN uF uW uB ubw ubu ubd ucm ucw ucf) → va_S A s.heap H locs → W p l e ({ frames := 3, cells := 0, slots := 0, locals := 68 }) s m args below meth c H locs 0 0 Q (F0 m 3 ls []) := fun x5 hv => hv (fun x5 => ∀ (ls : Array Slot) (H : Heap) (locs : List Loc), lv_has ls 8 [(0, .ref uo), (1, .int a1), (2, .int a2), (3, .int a3), (4, .int a4), (5, .int x5)] → va_P (dC, dI) vwCl (kModel kI uo ur ux ut un uf uw ub uR uk uX ul uT ui uN uF uW uB ubw ubu ubd ucm ucw ucf) H → va_D A (kModel kI uo ur ux ut un uf uw ub uR uk uX ul uT ui uN uF uW uB ubw ubu ubd ucm ucw ucf) → va_S A s.heap H locs → W p l e ({ frames := 3, cells := 0, slots := 0, locals := 68 }) s m args below meth c H locs 0 0 Q (F0 m 3 ls [])) (fun x5 x6 x7 => ∀ (ls : Array Slot) (H : Heap) (locs : List Loc), lv_has ls 8 [(0, .ref uo), (1, .int a1), (2, .int a2), (3, .int a3), (4, .int a4), (5, .int x5), (6, .int x6), (7, .int x7)] → va_P (dC, dI) vwCl (kModel kI uo ur ux ut un uf uw ub uR uk uX ul uT ui uN uF uW uB ubw ubu ubd ucm ucw ucf) H → va_D A (kModel kI uo ur ux ut un uf uw ub uR uk uX ul uT ui uN uF uW uB ubw ubu ubd ucm ucw ucf) → va_S A s.heap H locs → W p l e ({ frames := 3, cells := 0, slots := 0, locals := 68 }) s m args below meth c H locs 0 0 Q (F0 m 20 ls [])) (fun J3 J20 q3 q20 => (key J3 J20 q3 q20).1) (fun J3 J20 q3 q20 => (key J3 J20 q3 q20).2)
  have hJ20 : ∀ (x5 : Int32) (x6 : Int32) (x7 : Int32), Wp_X7_caller_20 uR a1 a2 a3 a4 Z x5 x6 x7 → ∀ (ls : Array Slot) (H : Heap) (locs : List Loc), lv_has ls 8 [(0, .ref uo), (1, .int a1), (2, .int a2), (3, .int a3), (4, .int a4), (5, .int x5), (6, .int x6), (7, .int x7)] → va_P (dC, dI) vwCl (kModel kI uo ur ux ut un uf uw ub uR uk uX ul uT ui uN uF uW uB ubw ubu ubd ucm ucw ucf) H → va_D A (kModel kI uo ur ux ut un uf uw ub uR uk uX ul uT ui uN uF uW uB ubw ubu ubd ucm ucw ucf) → va_S A s.heap H locs → W p l e ({ frames := 3, cells := 0, slots := 0, locals := 68 }) s m args below meth c H locs 0 0 Q (F0 m 20 ls []) := fun x5 x6 x7 hv => hv (fun x5 => ∀ (ls : Array Slot) (H : Heap) (locs : List Loc), lv_has ls 8 [(0, .ref uo), (1, .int a1), (2, .int a2), (3, .int a3), (4, .int a4), (5, .int x5)] → va_P (dC, dI) vwCl (kModel kI uo ur ux ut un uf uw ub uR uk uX ul uT ui uN uF uW uB ubw ubu ubd ucm ucw ucf) H → va_D A (kModel kI uo ur ux ut un uf uw ub uR uk uX ul uT ui uN uF uW uB ubw ubu ubd ucm ucw ucf) → va_S A s.heap H locs → W p l e ({ frames := 3, cells := 0, slots := 0, locals := 68 }) s m args below meth c H locs 0 0 Q (F0 m 3 ls [])) (fun x5 x6 x7 => ∀ (ls : Array Slot) (H : Heap) (locs : List Loc), lv_has ls 8 [(0, .ref uo), (1, .int a1), (2, .int a2), (3, .int a3), (4, .int a4), (5, .int x5), (6, .int x6), (7, .int x7)] → va_P (dC, dI) vwCl (kModel kI uo ur ux ut un uf uw ub uR uk uX ul uT ui uN uF uW uB ubw ubu ubd ucm ucw ucf) H → va_D A (kModel kI uo ur ux ut un uf uw ub uR uk uX ul uT ui uN uF uW uB ubw ubu ubd ucm ucw ucf) → va_S A s.heap H locs → W p l e ({ frames := 3, cells := 0, slots := 0, locals := 68 }) s m args below meth c H locs 0 0 Q (F0 m 20 ls [])) (fun J3 J20 q3 q20 => (key J3 J20 q3 q20).1) (fun J3 J20 q3 q20 => (key J3 J20 q3 q20).2)
  unfold Wp_X7_caller at hw
  refine lv_iconst (v := (0 : Int32)) hx hb dX7_caller_0 (by decide) ?_
  refine lv_istore (lv' := [(5, .int (0 : Int32)), (0, .ref uo), (1, .int a1), (2, .int a2), (3, .int a3), (4, .int a4)]) hx hb dX7_caller_1 hl (by decide) rfl (fun ls hl => ?_)
  exact hJ3 (0 : Int32) hw ls _ _ (lv_sub hl [1, 2, 3, 4, 5, 0] rfl) hP hD hS
-- CakeMarksModel.moves(II)I
def K_X7_moves_51 (a1 : Int32) (a2 : Int32) (Z : Int32 → (Nat → Int32) → Prop) (J11 : Int32 → Int32 → Int32 → Int32 → (Nat → Int32) → Prop) (x3 : Int32) (x4 : Int32) (x5 : Int32) (x6 : Int32) (uR : Nat → Int32) (t0 : Int32) : Prop := ((t0 = (-9 : Int32) → (J11 x3 x4 x5 (x6 + (1 : Int32)) uR)) ∧ (¬ t0 = (-9 : Int32) → (Wp_X7_brings uR x4 x6 (1 : Int32) t0 (fun r_8 uR_7 => (J11 (x3 &&& (((1 : Int32) <<< (t0 &&& 31)) ^^^ (-1 : Int32))) (x6 + (1 : Int32)) (x5 + (1 : Int32)) (x6 + (1 : Int32)) uR_7)))))
def B_X7_moves_11 (a1 : Int32) (a2 : Int32) (Z : Int32 → (Nat → Int32) → Prop) (J11 : Int32 → Int32 → Int32 → Int32 → (Nat → Int32) → Prop) (x3 : Int32) (x4 : Int32) (x5 : Int32) (x6 : Int32) (uR : Nat → Int32) : Prop := (((24 : Int32) ≤ x6 → (Z x5 uR)) ∧ (¬ (24 : Int32) ≤ x6 → ((x3 = (0 : Int32) → (Z x5 uR)) ∧ (¬ x3 = (0 : Int32) → (vp_in ((1 : Int32) + x6) 847 ∧ ((¬ (uR ((1 : Int32) + x6).toNatClampNeg) = (-9 : Int32) → (K_X7_moves_51 a1 a2 Z J11 x3 x4 x5 x6 uR (-9 : Int32))) ∧ ((uR ((1 : Int32) + x6).toNatClampNeg) = (-9 : Int32) → (Wp_X7_caller uR a1 x3 x4 x6 (fun r_5 => (K_X7_moves_51 a1 a2 Z J11 x3 x4 x5 x6 uR r_5))))))))))
def Wp_X7_moves_11 (a1 : Int32) (a2 : Int32) (Z : Int32 → (Nat → Int32) → Prop) (x3 : Int32) (x4 : Int32) (x5 : Int32) (x6 : Int32) (uR : Nat → Int32) : Prop := ∀ (I11 : Int32 → Int32 → Int32 → Int32 → (Nat → Int32) → Prop), (∀ (J11 : Int32 → Int32 → Int32 → Int32 → (Nat → Int32) → Prop), (∀ (x3 : Int32) (x4 : Int32) (x5 : Int32) (x6 : Int32) (uR : Nat → Int32), J11 x3 x4 x5 x6 uR → I11 x3 x4 x5 x6 uR) → ∀ (x3 : Int32) (x4 : Int32) (x5 : Int32) (x6 : Int32) (uR : Nat → Int32), B_X7_moves_11 a1 a2 Z J11 x3 x4 x5 x6 uR → I11 x3 x4 x5 x6 uR) → I11 x3 x4 x5 x6 uR
theorem F_X7_moves_11 (a1 : Int32) (a2 : Int32) (Z : Int32 → (Nat → Int32) → Prop) (x3 : Int32) (x4 : Int32) (x5 : Int32) (x6 : Int32) (uR : Nat → Int32) (h : B_X7_moves_11 a1 a2 Z (Wp_X7_moves_11 a1 a2 Z) x3 x4 x5 x6 uR) : Wp_X7_moves_11 a1 a2 Z x3 x4 x5 x6 uR := fun I11 h11 => h11 _ (fun x3 x4 x5 x6 uR hx => hx I11 h11) x3 x4 x5 x6 uR h
def Wp_X7_moves (uR : Nat → Int32) (a1 : Int32) (a2 : Int32) (Z : Int32 → (Nat → Int32) → Prop) : Prop := ((Wp_X7_moves_11 a1 a2 Z) a2 (0 : Int32) (0 : Int32) (0 : Int32) uR)
theorem in_X7_moves_X7 : ∀ w ∈ u_ws RX7 TX7 16, w ∈ wsX7_moves := fun w h => List.mem_cons_of_mem _ (List.mem_append_right _ h)
set_option maxHeartbeats 20000000 in
set_option maxRecDepth 100000 in
theorem c_X7_moves (l : Launch) (dC : Nat → ClassId) (dI : Nat → Nat → Nat) (kI kA kC : ClassId) (uo : Nat) (ur : Nat) (ux : Nat) (ut : Nat) (un : Nat) (uf : Nat) (uw : Nat) (ub : Nat) (sz : Nat) (uR : Nat → Int32) (uk : Int32) (uX : Nat → Int32) (ul : Int32) (uT : Nat → Int32) (ui : Int32) (uN : Nat → Int32) (uF : Nat → Int32) (uW : Nat → Int32) (uB : Nat → Int32) (ubw : Int32) (ubu : Int32) (ubd : Int32) (ucm : Int32) (ucw : Int32) (ucf : Int32) (a1 : Int32) (a2 : Int32) (Z : Int32 → (Nat → Int32) → Prop) (hw : Wp_X7_moves uR a1 a2 Z) : zI l yX7_moves wsX7_moves ({ frames := 4, cells := 0, slots := 0, locals := 95 }) dC dI kI kA kC sz 0 0 [.ref uo, .int a1, .int a2] (kModel kI uo ur ux ut un uf uw ub uR uk uX ul uT ui uN uF uW uB ubw ubu ubd ucm ucw ucf) (fun (r : Int32) (u : (Nat → Int32)) => Z r u) (fun (u : (Nat → Int32)) => (kModel kI uo ur ux ut un uf uw ub u uk uX ul uT ui uN uF uW uB ubw ubu ubd ucm ucw ucf)) := by
  refine zI.of (cc := cX7_moves) (maxL := 8) (ty := .int) (by decide) rfl (Nat.le_of_ble_eq_true rfl) (Or.inl rfl) ?_
  intro p e s m args below meth c A Q C0 hret ls hl
  obtain ⟨hx, hb, hr, hml, hts, hown, hin, hP, hK, hD, hA, hS⟩ := C0
  have hown : s.vm.findClass RX7 = some m.cls := hown
  have hl : lv_has ls 8 [(0, .ref uo), (1, .int a1), (2, .int a2)] := hl
  have k_51 : ∀ (J11 : Int32 → Int32 → Int32 → Int32 → (Nat → Int32) → Prop) (hJ11 : ∀ (x3 : Int32) (x4 : Int32) (x5 : Int32) (x6 : Int32) (uR : Nat → Int32), J11 x3 x4 x5 x6 uR → ∀ (ls : Array Slot) (H : Heap) (locs : List Loc), lv_has ls 8 [(0, .ref uo), (1, .int a1), (3, .int x3), (4, .int x4), (5, .int x5), (6, .int x6)] → va_P (dC, dI) vwCl (kModel kI uo ur ux ut un uf uw ub uR uk uX ul uT ui uN uF uW uB ubw ubu ubd ucm ucw ucf) H → va_D A (kModel kI uo ur ux ut un uf uw ub uR uk uX ul uT ui uN uF uW uB ubw ubu ubd ucm ucw ucf) → va_S A s.heap H locs → W p l e ({ frames := 4, cells := 0, slots := 0, locals := 95 }) s m args below meth c H locs 0 0 Q (F0 m 11 ls [])), ∀ (x3 : Int32) (x4 : Int32) (x5 : Int32) (x6 : Int32) (uR : Nat → Int32) (t0 : Int32), K_X7_moves_51 a1 a2 Z J11 x3 x4 x5 x6 uR t0 → ∀ (ls : Array Slot) (H : Heap) (locs : List Loc), lv_has ls 8 [(0, .ref uo), (1, .int a1), (3, .int x3), (4, .int x4), (5, .int x5), (6, .int x6)] → va_P (dC, dI) vwCl (kModel kI uo ur ux ut un uf uw ub uR uk uX ul uT ui uN uF uW uB ubw ubu ubd ucm ucw ucf) H → va_D A (kModel kI uo ur ux ut un uf uw ub uR uk uX ul uT ui uN uF uW uB ubw ubu ubd ucm ucw ucf) → va_S A s.heap H locs → W p l e ({ frames := 4, cells := 0, slots := 0, locals := 95 }) s m args below meth c H locs 0 0 Q (F0 m 51 ls [.int t0]) := by
    intro J11 hJ11 x3 x4 x5 x6 uR t0 hw ls H locs hl hP hD hS
    unfold K_X7_moves_51 at hw
    refine lv_istore (lv' := [(7, .int t0), (0, .ref uo), (1, .int a1), (3, .int x3), (4, .int x4), (5, .int x5), (6, .int x6)]) hx hb dX7_moves_51 hl (by decide) rfl (fun ls hl => ?_)
    refine lv_iload hx hb dX7_moves_53 (lv_at hl 0 rfl) ?_
    refine lv_bipush (v := (-9 : Int32)) hx hb dX7_moves_55 (by decide) ?_
    refine lv_icmp_eq (tgt := 90) hx hb dX7_moves_57 (by decide) (fun c_6 => ?_) (fun c_6 => ?_)
    · have hw := hw.1 c_6
      refine lv_iinc (v := (x6 + (1 : Int32))) (lv' := [(6, .int (x6 + (1 : Int32))), (7, .int t0), (0, .ref uo), (1, .int a1), (3, .int x3), (4, .int x4), (5, .int x5)]) hx hb dX7_moves_90 hl (k := 6) rfl (by first | rfl | decide) (by decide) rfl (fun ls hl => ?_)
      refine lv_goto (tgt := 11) hx hb dX7_moves_93 (by decide) ?_
      exact hJ11 x3 x4 x5 (x6 + (1 : Int32)) uR hw ls _ _ (lv_sub hl [2, 3, 4, 5, 6, 0] rfl) hP hD hS
    · have hw := hw.2 c_6
      refine lv_aload_n hx hb dX7_moves_60 rfl (lv_at hl 1 rfl) ?_
      refine lv_iload hx hb dX7_moves_61 (lv_at hl 4 rfl) ?_
      refine lv_iload hx hb dX7_moves_63 (lv_at hl 6 rfl) ?_
      refine lv_iconst (v := (1 : Int32)) hx hb dX7_moves_65 (by decide) ?_
      refine lv_iload hx hb dX7_moves_66 (lv_at hl 0 rfl) ?_
      refine zcallI (ci := 7) (q0 := 0) (As := [.int x4, .int x6, .int (1 : Int32), .int t0]) (rest := []) (wr := ([] : va_W)) (Wn := fun u => (kModel kI uo ur ux ut un uf uw ub u uk uX ul uT ui uN uF uW uB ubw ubu ubd ucm ucw ucf)) ⟨hx, hb, hml, hown, hts⟩ (c_X7_brings l dC dI kI kA kC uo ur ux ut un uf uw ub _ uR uk uX ul uT ui uN uF uW uB ubw ubu ubd ucm ucw ucf x4 x6 (1 : Int32) t0 _ hw) (cwV 4 hts gX7_moves_X7_brings rfl rfl rfl (by decide +kernel) ⟨Nat.le_of_ble_eq_true rfl, Nat.le_of_ble_eq_true rfl⟩) hK hP hD hS hA [0, 1, 2, 3, 4, 5, 6, 7] [] [0, 1, 2, 3, 4, 5, 6, 7] rfl rfl (by decide) (by decide) (by decide) (fun u => rfl) (by decide) rfl rfl rfl rfl hl.1 rfl (Nat.le_of_ble_eq_true rfl) dX7_moves_68 ⟨Nat.zero_le _, Nat.zero_le _⟩ (fun r_8 uR_7 H locs hw hP hD hS => ?_)
      have hP : va_P (dC, dI) vwCl (kModel kI uo ur ux ut un uf uw ub uR_7 uk uX ul uT ui uN uF uW uB ubw ubu ubd ucm ucw ucf) H := hP
      have hD : va_D A (kModel kI uo ur ux ut un uf uw ub uR_7 uk uX ul uT ui uN uF uW uB ubw ubu ubd ucm ucw ucf) := hD
      refine lv_pop hx hb dX7_moves_71 rfl ?_
      refine lv_iload_n hx hb dX7_moves_72 rfl (lv_at hl 3 rfl) ?_
      refine lv_iconst (v := (1 : Int32)) hx hb dX7_moves_73 (by decide) ?_
      refine lv_iload hx hb dX7_moves_74 (lv_at hl 0 rfl) ?_
      refine lv_ishl hx hb dX7_moves_76 ?_
      refine lv_iconst (v := (-1 : Int32)) hx hb dX7_moves_77 (by decide) ?_
      refine lv_ixor hx hb dX7_moves_78 ?_
      refine lv_iand hx hb dX7_moves_79 ?_
      refine lv_istore_n (lv' := [(3, .int (x3 &&& (((1 : Int32) <<< (t0 &&& 31)) ^^^ (-1 : Int32)))), (7, .int t0), (0, .ref uo), (1, .int a1), (4, .int x4), (5, .int x5), (6, .int x6)]) hx hb dX7_moves_80 rfl hl (by decide) rfl (fun ls hl => ?_)
      refine lv_iload hx hb dX7_moves_81 (lv_at hl 6 rfl) ?_
      refine lv_iconst (v := (1 : Int32)) hx hb dX7_moves_83 (by decide) ?_
      refine lv_iadd hx hb dX7_moves_84 ?_
      refine lv_istore (lv' := [(4, .int (x6 + (1 : Int32))), (3, .int (x3 &&& (((1 : Int32) <<< (t0 &&& 31)) ^^^ (-1 : Int32)))), (7, .int t0), (0, .ref uo), (1, .int a1), (5, .int x5), (6, .int x6)]) hx hb dX7_moves_85 hl (by decide) rfl (fun ls hl => ?_)
      refine lv_iinc (v := (x5 + (1 : Int32))) (lv' := [(5, .int (x5 + (1 : Int32))), (4, .int (x6 + (1 : Int32))), (3, .int (x3 &&& (((1 : Int32) <<< (t0 &&& 31)) ^^^ (-1 : Int32)))), (7, .int t0), (0, .ref uo), (1, .int a1), (6, .int x6)]) hx hb dX7_moves_87 hl (k := 5) rfl (by first | rfl | decide) (by decide) rfl (fun ls hl => ?_)
      refine lv_iinc (v := (x6 + (1 : Int32))) (lv' := [(6, .int (x6 + (1 : Int32))), (5, .int (x5 + (1 : Int32))), (4, .int (x6 + (1 : Int32))), (3, .int (x3 &&& (((1 : Int32) <<< (t0 &&& 31)) ^^^ (-1 : Int32)))), (7, .int t0), (0, .ref uo), (1, .int a1)]) hx hb dX7_moves_90 hl (k := 6) rfl (by first | rfl | decide) (by decide) rfl (fun ls hl => ?_)
      refine lv_goto (tgt := 11) hx hb dX7_moves_93 (by decide) ?_
      exact hJ11 (x3 &&& (((1 : Int32) <<< (t0 &&& 31)) ^^^ (-1 : Int32))) (x6 + (1 : Int32)) (x5 + (1 : Int32)) (x6 + (1 : Int32)) uR_7 hw ls _ _ (lv_sub hl [5, 6, 3, 2, 1, 0] rfl) hP hD hS
  have key : ∀ (J11 : Int32 → Int32 → Int32 → Int32 → (Nat → Int32) → Prop) (hJ11 : ∀ (x3 : Int32) (x4 : Int32) (x5 : Int32) (x6 : Int32) (uR : Nat → Int32), J11 x3 x4 x5 x6 uR → ∀ (ls : Array Slot) (H : Heap) (locs : List Loc), lv_has ls 8 [(0, .ref uo), (1, .int a1), (3, .int x3), (4, .int x4), (5, .int x5), (6, .int x6)] → va_P (dC, dI) vwCl (kModel kI uo ur ux ut un uf uw ub uR uk uX ul uT ui uN uF uW uB ubw ubu ubd ucm ucw ucf) H → va_D A (kModel kI uo ur ux ut un uf uw ub uR uk uX ul uT ui uN uF uW uB ubw ubu ubd ucm ucw ucf) → va_S A s.heap H locs → W p l e ({ frames := 4, cells := 0, slots := 0, locals := 95 }) s m args below meth c H locs 0 0 Q (F0 m 11 ls [])), (∀ (x3 : Int32) (x4 : Int32) (x5 : Int32) (x6 : Int32) (uR : Nat → Int32), B_X7_moves_11 a1 a2 Z J11 x3 x4 x5 x6 uR → ∀ (ls : Array Slot) (H : Heap) (locs : List Loc), lv_has ls 8 [(0, .ref uo), (1, .int a1), (3, .int x3), (4, .int x4), (5, .int x5), (6, .int x6)] → va_P (dC, dI) vwCl (kModel kI uo ur ux ut un uf uw ub uR uk uX ul uT ui uN uF uW uB ubw ubu ubd ucm ucw ucf) H → va_D A (kModel kI uo ur ux ut un uf uw ub uR uk uX ul uT ui uN uF uW uB ubw ubu ubd ucm ucw ucf) → va_S A s.heap H locs → W p l e ({ frames := 4, cells := 0, slots := 0, locals := 95 }) s m args below meth c H locs 0 0 Q (F0 m 11 ls [])) := by
    intro J11 hJ11
    · intro x3 x4 x5 x6 uR hw ls H locs hl hP hD hS
      unfold B_X7_moves_11 at hw
      refine lv_iload hx hb dX7_moves_11 (lv_at hl 5 rfl) ?_
      refine lv_bipush (v := (24 : Int32)) hx hb dX7_moves_13 (by decide) ?_
      refine lv_icmp_ge (tgt := 96) hx hb dX7_moves_15 (by decide) (fun c_1 => ?_) (fun c_1 => ?_)
      · have hw := hw.1 c_1
        refine lv_iload hx hb dX7_moves_96 (lv_at hl 4 rfl) ?_
        exact hret 98 x5 uR _ _ _ (fun h => absurd h (by decide)) hw hP hD hS dX7_moves_98
      · have hw := hw.2 c_1
        refine lv_iload_n hx hb dX7_moves_18 rfl (lv_at hl 2 rfl) ?_
        refine lv_if_eq (tgt := 96) hx hb dX7_moves_19 (by decide) (fun c_2 => ?_) (fun c_2 => ?_)
        · have hw := hw.1 c_2
          refine lv_iload hx hb dX7_moves_96 (lv_at hl 4 rfl) ?_
          exact hret 98 x5 uR _ _ _ (fun h => absurd h (by decide)) hw hP hD hS dX7_moves_98
        · have hw := hw.2 c_2
          refine lv_aload_n hx hb dX7_moves_22 rfl (lv_at hl 0 rfl) ?_
          refine va_get (D := (dC, dI)) (ci := 7) (v := .ref ur) (C := RX7) (T := TX7) (N := 16) hx hb hts in_X7_moves_X7 hown hK hP 0 rfl rfl 0 (by decide) (hts (.fieldLink RX7 7 "CakeMarksModel" "row" "[I") (List.mem_of_getElem? (i := 1) rfl)) (fun _ h9 => h9) rfl dX7_moves_23 ?_
          refine lv_iconst (v := (1 : Int32)) hx hb dX7_moves_26 (by decide) ?_
          refine lv_iload hx hb dX7_moves_27 (lv_at hl 5 rfl) ?_
          refine lv_iadd hx hb dX7_moves_29 ?_
          obtain ⟨h_3, hw⟩ := hw
          refine va_iald hx hb hK hP 1 0 rfl rfl h_3 dX7_moves_30 ?_
          refine lv_bipush (v := (-9 : Int32)) hx hb dX7_moves_31 (by decide) ?_
          refine lv_icmp_ne (tgt := 49) hx hb dX7_moves_33 (by decide) (fun c_4 => ?_) (fun c_4 => ?_)
          · have hw := hw.1 c_4
            refine lv_bipush (v := (-9 : Int32)) hx hb dX7_moves_49 (by decide) ?_
            exact k_51 _ hJ11 x3 x4 x5 x6 uR (-9 : Int32) hw ls _ _ (lv_sub hl [0, 1, 2, 3, 4, 5] rfl) hP hD hS
          · have hw := hw.2 c_4
            refine lv_aload_n hx hb dX7_moves_36 rfl (lv_at hl 0 rfl) ?_
            refine lv_iload_n hx hb dX7_moves_37 rfl (lv_at hl 1 rfl) ?_
            refine lv_iload_n hx hb dX7_moves_38 rfl (lv_at hl 2 rfl) ?_
            refine lv_iload hx hb dX7_moves_39 (lv_at hl 3 rfl) ?_
            refine lv_iload hx hb dX7_moves_41 (lv_at hl 5 rfl) ?_
            refine zcallI (ci := 7) (q0 := 0) (As := [.int a1, .int x3, .int x4, .int x6]) (rest := []) (wr := ([] : va_W)) (Wn := fun u => (kModel kI uo ur ux ut un uf uw ub uR uk uX ul uT ui uN uF uW uB ubw ubu ubd ucm ucw ucf)) ⟨hx, hb, hml, hown, hts⟩ (c_X7_caller l dC dI kI kA kC uo ur ux ut un uf uw ub _ uR uk uX ul uT ui uN uF uW uB ubw ubu ubd ucm ucw ucf a1 x3 x4 x6 _ hw) (cwV 4 hts gX7_moves_X7_caller rfl rfl rfl (by decide +kernel) ⟨Nat.le_of_ble_eq_true rfl, Nat.le_of_ble_eq_true rfl⟩) hK hP hD hS hA [0, 1, 2, 3, 4, 5, 6, 7] [] [0, 1, 2, 3, 4, 5, 6, 7] rfl rfl (by decide) (by decide) (by decide) (fun u => rfl) (by decide) rfl rfl rfl rfl hl.1 rfl (Nat.le_of_ble_eq_true rfl) dX7_moves_43 ⟨Nat.zero_le _, Nat.zero_le _⟩ (fun r_5 u H locs hw hP hD hS => ?_)
            have hP : va_P (dC, dI) vwCl (kModel kI uo ur ux ut un uf uw ub uR uk uX ul uT ui uN uF uW uB ubw ubu ubd ucm ucw ucf) H := hP
            have hD : va_D A (kModel kI uo ur ux ut un uf uw ub uR uk uX ul uT ui uN uF uW uB ubw ubu ubd ucm ucw ucf) := hD
            refine lv_goto (tgt := 51) hx hb dX7_moves_46 (by decide) ?_
            exact k_51 _ hJ11 x3 x4 x5 x6 uR r_5 hw ls _ _ (lv_sub hl [0, 1, 2, 3, 4, 5] rfl) hP hD hS
  have hJ11 : ∀ (x3 : Int32) (x4 : Int32) (x5 : Int32) (x6 : Int32) (uR : Nat → Int32), Wp_X7_moves_11 a1 a2 Z x3 x4 x5 x6 uR → ∀ (ls : Array Slot) (H : Heap) (locs : List Loc), lv_has ls 8 [(0, .ref uo), (1, .int a1), (3, .int x3), (4, .int x4), (5, .int x5), (6, .int x6)] → va_P (dC, dI) vwCl (kModel kI uo ur ux ut un uf uw ub uR uk uX ul uT ui uN uF uW uB ubw ubu ubd ucm ucw ucf) H → va_D A (kModel kI uo ur ux ut un uf uw ub uR uk uX ul uT ui uN uF uW uB ubw ubu ubd ucm ucw ucf) → va_S A s.heap H locs → W p l e ({ frames := 4, cells := 0, slots := 0, locals := 95 }) s m args below meth c H locs 0 0 Q (F0 m 11 ls []) := fun x3 x4 x5 x6 uR hv => hv (fun x3 x4 x5 x6 uR => ∀ (ls : Array Slot) (H : Heap) (locs : List Loc), lv_has ls 8 [(0, .ref uo), (1, .int a1), (3, .int x3), (4, .int x4), (5, .int x5), (6, .int x6)] → va_P (dC, dI) vwCl (kModel kI uo ur ux ut un uf uw ub uR uk uX ul uT ui uN uF uW uB ubw ubu ubd ucm ucw ucf) H → va_D A (kModel kI uo ur ux ut un uf uw ub uR uk uX ul uT ui uN uF uW uB ubw ubu ubd ucm ucw ucf) → va_S A s.heap H locs → W p l e ({ frames := 4, cells := 0, slots := 0, locals := 95 }) s m args below meth c H locs 0 0 Q (F0 m 11 ls [])) (fun J11 q11 => (key J11 q11))
  unfold Wp_X7_moves at hw
  refine lv_iload_n hx hb dX7_moves_0 rfl (lv_at hl 2 rfl) ?_
  refine lv_istore_n (lv' := [(3, .int a2), (0, .ref uo), (1, .int a1), (2, .int a2)]) hx hb dX7_moves_1 rfl hl (by decide) rfl (fun ls hl => ?_)
  refine lv_iconst (v := (0 : Int32)) hx hb dX7_moves_2 (by decide) ?_
  refine lv_istore (lv' := [(4, .int (0 : Int32)), (3, .int a2), (0, .ref uo), (1, .int a1), (2, .int a2)]) hx hb dX7_moves_3 hl (by decide) rfl (fun ls hl => ?_)
  refine lv_iconst (v := (0 : Int32)) hx hb dX7_moves_5 (by decide) ?_
  refine lv_istore (lv' := [(5, .int (0 : Int32)), (4, .int (0 : Int32)), (3, .int a2), (0, .ref uo), (1, .int a1), (2, .int a2)]) hx hb dX7_moves_6 hl (by decide) rfl (fun ls hl => ?_)
  refine lv_iconst (v := (0 : Int32)) hx hb dX7_moves_8 (by decide) ?_
  refine lv_istore (lv' := [(6, .int (0 : Int32)), (5, .int (0 : Int32)), (4, .int (0 : Int32)), (3, .int a2), (0, .ref uo), (1, .int a1), (2, .int a2)]) hx hb dX7_moves_9 hl (by decide) rfl (fun ls hl => ?_)
  exact hJ11 a2 (0 : Int32) (0 : Int32) (0 : Int32) uR hw ls _ _ (lv_sub hl [4, 5, 3, 2, 1, 0] rfl) hP hD hS
-- CakeMarksModel.move(II)I
def Wp_X7_move (uR : Nat → Int32) (uk : Int32) (a1 : Int32) (a2 : Int32) (Z : Int32 → (Nat → Int32) → Int32 → Prop) : Prop := (Wp_X7_isMove uR a1 a2 (fun r_1 => ((¬ r_1 = (0 : Int32) → (Wp_X7_records uR uk (fun uR_3 uk_4 => (Wp_X7_moves uR_3 a1 a2 (fun r_6 uR_5 => (Z r_6 uR_5 uk_4)))))) ∧ (r_1 = (0 : Int32) → (Z (-1 : Int32) uR uk)))))
set_option maxHeartbeats 20000000 in
set_option maxRecDepth 100000 in
theorem c_X7_move (l : Launch) (dC : Nat → ClassId) (dI : Nat → Nat → Nat) (kI kA kC : ClassId) (uo : Nat) (ur : Nat) (ux : Nat) (ut : Nat) (un : Nat) (uf : Nat) (uw : Nat) (ub : Nat) (sz : Nat) (uR : Nat → Int32) (uk : Int32) (uX : Nat → Int32) (ul : Int32) (uT : Nat → Int32) (ui : Int32) (uN : Nat → Int32) (uF : Nat → Int32) (uW : Nat → Int32) (uB : Nat → Int32) (ubw : Int32) (ubu : Int32) (ubd : Int32) (ucm : Int32) (ucw : Int32) (ucf : Int32) (a1 : Int32) (a2 : Int32) (Z : Int32 → (Nat → Int32) → Int32 → Prop) (hw : Wp_X7_move uR uk a1 a2 Z) : zI l yX7_move wsX7_move ({ frames := 5, cells := 0, slots := 0, locals := 122 }) dC dI kI kA kC sz 0 0 [.ref uo, .int a1, .int a2] (kModel kI uo ur ux ut un uf uw ub uR uk uX ul uT ui uN uF uW uB ubw ubu ubd ucm ucw ucf) (fun (r : Int32) (u : (Nat → Int32) × Int32) => Z r u.1 u.2) (fun (u : (Nat → Int32) × Int32) => (kModel kI uo ur ux ut un uf uw ub u.1 u.2 uX ul uT ui uN uF uW uB ubw ubu ubd ucm ucw ucf)) := by
  refine zI.of (cc := cX7_move) (maxL := 3) (ty := .int) (by decide) rfl (Nat.le_of_ble_eq_true rfl) (Or.inl rfl) ?_
  intro p e s m args below meth c A Q C0 hret ls hl
  obtain ⟨hx, hb, hr, hml, hts, hown, hin, hP, hK, hD, hA, hS⟩ := C0
  have hown : s.vm.findClass RX7 = some m.cls := hown
  have hl : lv_has ls 3 [(0, .ref uo), (1, .int a1), (2, .int a2)] := hl
  unfold Wp_X7_move at hw
  refine lv_aload_n hx hb dX7_move_0 rfl (lv_at hl 0 rfl) ?_
  refine lv_iload_n hx hb dX7_move_1 rfl (lv_at hl 1 rfl) ?_
  refine lv_iload_n hx hb dX7_move_2 rfl (lv_at hl 2 rfl) ?_
  refine zcallI (ci := 7) (q0 := 0) (As := [.int a1, .int a2]) (rest := []) (wr := ([] : va_W)) (Wn := fun u => (kModel kI uo ur ux ut un uf uw ub uR uk uX ul uT ui uN uF uW uB ubw ubu ubd ucm ucw ucf)) ⟨hx, hb, hml, hown, hts⟩ (c_X7_isMove l dC dI kI kA kC uo ur ux ut un uf uw ub _ uR uk uX ul uT ui uN uF uW uB ubw ubu ubd ucm ucw ucf a1 a2 _ hw) (cwV 2 hts gX7_move_X7_isMove rfl rfl rfl (by decide +kernel) ⟨Nat.le_of_ble_eq_true rfl, Nat.le_of_ble_eq_true rfl⟩) hK hP hD hS hA [0, 1, 2, 3, 4, 5, 6, 7] [] [0, 1, 2, 3, 4, 5, 6, 7] rfl rfl (by decide) (by decide) (by decide) (fun u => rfl) (by decide) rfl rfl rfl rfl hl.1 rfl (Nat.le_of_ble_eq_true rfl) dX7_move_3 ⟨Nat.zero_le _, Nat.zero_le _⟩ (fun r_1 u H locs hw hP hD hS => ?_)
  have hP : va_P (dC, dI) vwCl (kModel kI uo ur ux ut un uf uw ub uR uk uX ul uT ui uN uF uW uB ubw ubu ubd ucm ucw ucf) H := hP
  have hD : va_D A (kModel kI uo ur ux ut un uf uw ub uR uk uX ul uT ui uN uF uW uB ubw ubu ubd ucm ucw ucf) := hD
  refine lv_if_ne (tgt := 11) hx hb dX7_move_6 (by decide) (fun c_2 => ?_) (fun c_2 => ?_)
  · have hw := hw.1 c_2
    refine lv_aload_n hx hb dX7_move_11 rfl (lv_at hl 0 rfl) ?_
    refine zcallV (ci := 7) (q0 := 0) (As := []) (rest := []) (wr := ([] : va_W)) (Wn := fun u => (kModel kI uo ur ux ut un uf uw ub u.1 u.2 uX ul uT ui uN uF uW uB ubw ubu ubd ucm ucw ucf)) ⟨hx, hb, hml, hown, hts⟩ (c_X7_records l dC dI kI kA kC uo ur ux ut un uf uw ub _ uR uk uX ul uT ui uN uF uW uB ubw ubu ubd ucm ucw ucf _ hw) (cwV 0 hts gX7_move_X7_records rfl rfl rfl (by decide +kernel) ⟨Nat.le_of_ble_eq_true rfl, Nat.le_of_ble_eq_true rfl⟩) hK hP hD hS hA [0, 1, 2, 3, 4, 5, 6, 7] [] [0, 1, 2, 3, 4, 5, 6, 7] rfl rfl (by decide) (by decide) (by decide) (fun u => rfl) (by decide) rfl rfl rfl rfl hl.1 rfl (Nat.le_of_ble_eq_true rfl) dX7_move_12 ⟨Nat.zero_le _, Nat.zero_le _⟩ (fun u H locs hw hP hD hS => ?_)
    obtain ⟨uR_3, uk_4⟩ := u
    have hP : va_P (dC, dI) vwCl (kModel kI uo ur ux ut un uf uw ub uR_3 uk_4 uX ul uT ui uN uF uW uB ubw ubu ubd ucm ucw ucf) H := hP
    have hD : va_D A (kModel kI uo ur ux ut un uf uw ub uR_3 uk_4 uX ul uT ui uN uF uW uB ubw ubu ubd ucm ucw ucf) := hD
    refine lv_aload_n hx hb dX7_move_15 rfl (lv_at hl 0 rfl) ?_
    refine lv_iload_n hx hb dX7_move_16 rfl (lv_at hl 1 rfl) ?_
    refine lv_iload_n hx hb dX7_move_17 rfl (lv_at hl 2 rfl) ?_
    refine zcallI (ci := 7) (q0 := 0) (As := [.int a1, .int a2]) (rest := []) (wr := ([] : va_W)) (Wn := fun u => (kModel kI uo ur ux ut un uf uw ub u uk_4 uX ul uT ui uN uF uW uB ubw ubu ubd ucm ucw ucf)) ⟨hx, hb, hml, hown, hts⟩ (c_X7_moves l dC dI kI kA kC uo ur ux ut un uf uw ub _ uR_3 uk_4 uX ul uT ui uN uF uW uB ubw ubu ubd ucm ucw ucf a1 a2 _ hw) (cwV 2 hts gX7_move_X7_moves rfl rfl rfl (by decide +kernel) ⟨Nat.le_of_ble_eq_true rfl, Nat.le_of_ble_eq_true rfl⟩) hK hP hD hS hA [0, 1, 2, 3, 4, 5, 6, 7] [] [0, 1, 2, 3, 4, 5, 6, 7] rfl rfl (by decide) (by decide) (by decide) (fun u => rfl) (by decide) rfl rfl rfl rfl hl.1 rfl (Nat.le_of_ble_eq_true rfl) dX7_move_18 ⟨Nat.zero_le _, Nat.zero_le _⟩ (fun r_6 uR_5 H locs hw hP hD hS => ?_)
    have hP : va_P (dC, dI) vwCl (kModel kI uo ur ux ut un uf uw ub uR_5 uk_4 uX ul uT ui uN uF uW uB ubw ubu ubd ucm ucw ucf) H := hP
    have hD : va_D A (kModel kI uo ur ux ut un uf uw ub uR_5 uk_4 uX ul uT ui uN uF uW uB ubw ubu ubd ucm ucw ucf) := hD
    exact hret 21 r_6 (uR_5, uk_4) _ _ _ (fun h => absurd h (by decide)) hw hP hD hS dX7_move_21
  · have hw := hw.2 c_2
    refine lv_iconst (v := (-1 : Int32)) hx hb dX7_move_9 (by decide) ?_
    exact hret 10 (-1 : Int32) (uR, uk) _ _ _ (fun h => absurd h (by decide)) hw hP hD hS dX7_move_10
