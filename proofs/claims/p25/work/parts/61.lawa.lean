-- law.L_low
def Wp_L_low (a0 : Int32) (a1 : Int32) (Z : Int32 → Prop) : Prop := (¬ a1 = (0 : Int32) ∧ (Z ((a0 &&& (2147483647 : Int32)) - (a0 &&& (2147483647 : Int32)) / a1 * a1)))
set_option maxHeartbeats 20000000 in
set_option maxRecDepth 100000 in
theorem c_L_low (l : Launch) (dC : Nat → ClassId) (dI : Nat → Nat → Nat) (kI kA kC : ClassId) (sz : Nat) (a0 : Int32) (a1 : Int32) (Z : Int32 → Prop) (hw : Wp_L_low a0 a1 Z) : zI l yL_low wsL_low ({ frames := 0, cells := 0, slots := 0, locals := 0 }) dC dI kI kA kC sz 0 0 [.int a0, .int a1] ([] : va_W) (fun (r : Int32) (_ : Unit) => Z r) (fun (_ : Unit) => ([] : va_W)) := by
  refine zI.of (cc := cL_low) (maxL := 2) (ty := .int) (by decide) rfl (Nat.le_of_ble_eq_true rfl) (Or.inl rfl) ?_
  intro p e s m args below meth c A Q C0 hret ls hl
  obtain ⟨hx, hb, hr, hml, hts, hown, hin, hP, hK, hD, hA, hS⟩ := C0
  have hown : s.vm.findClass RL = some m.cls := hown
  have hl : lv_has ls 2 [(0, .int a0), (1, .int a1)] := hl
  unfold Wp_L_low at hw
  refine lv_iload_n hx hb dL_low_0 rfl (lv_at hl 0 rfl) ?_
  refine lv_ldc (v := (2147483647 : Int32)) hx hb hown (hts (.constant RL 7 (2147483647)) (List.mem_of_getElem? (i := 1) rfl)) dL_low_1 ?_
  refine lv_iand hx hb dL_low_3 ?_
  refine lv_iload_n hx hb dL_low_4 rfl (lv_at hl 1 rfl) ?_
  obtain ⟨h_1, hw⟩ := hw
  refine lv_irem hx hb dL_low_5 h_1 ?_
  exact hret 6 ((a0 &&& (2147483647 : Int32)) - (a0 &&& (2147483647 : Int32)) / a1 * a1) () _ _ _ (fun h => absurd h (by decide)) hw hP hD hS dL_low_6
-- law.L_worth
def B_L_worth_5 (sg : Sg) (a1 : Int32) (a2 : Int32) (Z : Int32 → Prop) (J5 : Int32 → Int32 → Prop) (x3 : Int32) (x4 : Int32) : Prop := (((24 : Int32) ≤ x4 → (Z x3)) ∧ (¬ (24 : Int32) ≤ x4 → (Wq_crumb sg x4 (fun r_2 => ((¬ r_2 = a2 → (J5 (x3 + (0 : Int32)) (x4 + (1 : Int32)))) ∧ (r_2 = a2 → (Wq_value sg a1 x4 (fun r_4 => (J5 (x3 + r_4) (x4 + (1 : Int32)))))))))))
def Wp_L_worth_5 (sg : Sg) (a1 : Int32) (a2 : Int32) (Z : Int32 → Prop) (x3 : Int32) (x4 : Int32) : Prop := ∀ (I5 : Int32 → Int32 → Prop), (∀ (J5 : Int32 → Int32 → Prop), (∀ (x3 : Int32) (x4 : Int32), J5 x3 x4 → I5 x3 x4) → ∀ (x3 : Int32) (x4 : Int32), B_L_worth_5 sg a1 a2 Z J5 x3 x4 → I5 x3 x4) → I5 x3 x4
theorem F_L_worth_5 (sg : Sg) (a1 : Int32) (a2 : Int32) (Z : Int32 → Prop) (x3 : Int32) (x4 : Int32) (h : B_L_worth_5 sg a1 a2 Z (Wp_L_worth_5 sg a1 a2 Z) x3 x4) : Wp_L_worth_5 sg a1 a2 Z x3 x4 := fun I5 h5 => h5 _ (fun x3 x4 hx => hx I5 h5) x3 x4 h
def Wp_L_worth (sg : Sg) (a1 : Int32) (a2 : Int32) (Z : Int32 → Prop) : Prop := ((Wp_L_worth_5 sg a1 a2 Z) (0 : Int32) (0 : Int32))
set_option maxHeartbeats 20000000 in
set_option maxRecDepth 100000 in
theorem c_L_worth (l : Launch) (dC : Nat → ClassId) (dI : Nat → Nat → Nat) (kI kA kC : ClassId) (so sz : Nat) (w : va_W) (sg : Sg) (a1 : Int32) (a2 : Int32) (Z : Int32 → Prop) (hI : OI kI kA kC so sg w) (hw : Wp_L_worth sg a1 a2 Z) : zI l yL_worth wsL_worth ({ frames := 2, cells := 0, slots := 0, locals := 43 }) dC dI kI kA kC sz 0 0 [.ref so, .int a1, .int a2] w (fun (r : Int32) (u : va_W) => OI kI kA kC so sg u ∧ Z r) (fun (u : va_W) => u) := by
  refine zI.of (cc := cL_worth) (maxL := 5) (ty := .int) (by decide) rfl (Nat.le_of_ble_eq_true rfl) (Or.inl rfl) ?_
  intro p e s m args below meth c A Q C0 hret ls hl
  obtain ⟨hx, hb, hr, hml, hts, hown, hin, hP, hK, hD, hA, hS⟩ := C0
  have hown : s.vm.findClass RL = some m.cls := hown
  have hl : lv_has ls 5 [(0, .ref so), (1, .int a1), (2, .int a2)] := hl
  have key : ∀ (J5 : Int32 → Int32 → Prop) (hJ5 : ∀ (x3 : Int32) (x4 : Int32), J5 x3 x4 → ∀ (w : va_W) (ls : Array Slot) (H : Heap) (locs : List Loc), OI kI kA kC so sg w → lv_has ls 5 [(0, .ref so), (1, .int a1), (2, .int a2), (3, .int x3), (4, .int x4)] → va_P (dC, dI) vwCl w H → va_D A w → va_S A s.heap H locs → W p l e ({ frames := 2, cells := 0, slots := 0, locals := 43 }) s m args below meth c H locs 0 0 Q (F0 m 5 ls [])), (∀ (x3 : Int32) (x4 : Int32), B_L_worth_5 sg a1 a2 Z J5 x3 x4 → ∀ (w : va_W) (ls : Array Slot) (H : Heap) (locs : List Loc), OI kI kA kC so sg w → lv_has ls 5 [(0, .ref so), (1, .int a1), (2, .int a2), (3, .int x3), (4, .int x4)] → va_P (dC, dI) vwCl w H → va_D A w → va_S A s.heap H locs → W p l e ({ frames := 2, cells := 0, slots := 0, locals := 43 }) s m args below meth c H locs 0 0 Q (F0 m 5 ls [])) := by
    intro J5 hJ5
    · intro x3 x4 hw w ls H locs hI hl hP hD hS
      unfold B_L_worth_5 at hw
      refine lv_iload hx hb dL_worth_5 (lv_at hl 4 rfl) ?_
      refine lv_bipush (v := (24 : Int32)) hx hb dL_worth_7 (by decide) ?_
      refine lv_icmp_ge (tgt := 42) hx hb dL_worth_9 (by decide) (fun c_1 => ?_) (fun c_1 => ?_)
      · have hw := hw.1 c_1
        refine lv_iload_n hx hb dL_worth_42 rfl (lv_at hl 3 rfl) ?_
        exact hret 43 x3 w _ _ _ (fun h => absurd h (by decide)) ⟨hI, hw⟩ hP hD hS dL_worth_43
      · have hw := hw.2 c_1
        refine lv_iload_n hx hb dL_worth_12 rfl (lv_at hl 3 rfl) ?_
        refine lv_aload_n hx hb dL_worth_13 rfl (lv_at hl 0 rfl) ?_
        refine lv_iload hx hb dL_worth_14 (lv_at hl 4 rfl) ?_
        refine k_crumb ⟨hx, hb, hml, hown, hts⟩ (cwV 1 hts gL_worth_X6_crumb rfl rfl rfl (by decide +kernel) ⟨Nat.le_of_ble_eq_true rfl, Nat.le_of_ble_eq_true rfl⟩) hK hI hP hD hS hA hl.1 (Nat.le_of_ble_eq_true rfl) dL_worth_16 ⟨Nat.zero_le _, Nat.zero_le _⟩ hw (fun r_2 w H locs hw hI hP hD hS => ?_)
        refine lv_iload_n hx hb dL_worth_19 rfl (lv_at hl 2 rfl) ?_
        refine lv_icmp_ne (tgt := 33) hx hb dL_worth_20 (by decide) (fun c_3 => ?_) (fun c_3 => ?_)
        · have hw := hw.1 c_3
          refine lv_iconst (v := (0 : Int32)) hx hb dL_worth_33 (by decide) ?_
          refine lv_iadd hx hb dL_worth_34 ?_
          refine lv_istore_n (lv' := [(3, .int (x3 + (0 : Int32))), (0, .ref so), (1, .int a1), (2, .int a2), (4, .int x4)]) hx hb dL_worth_35 rfl hl (by decide) rfl (fun ls hl => ?_)
          refine lv_iinc (v := (x4 + (1 : Int32))) (lv' := [(4, .int (x4 + (1 : Int32))), (3, .int (x3 + (0 : Int32))), (0, .ref so), (1, .int a1), (2, .int a2)]) hx hb dL_worth_36 hl (k := 4) rfl (by first | rfl | decide) (by decide) rfl (fun ls hl => ?_)
          refine lv_goto (tgt := 5) hx hb dL_worth_39 (by decide) ?_
          exact hJ5 (x3 + (0 : Int32)) (x4 + (1 : Int32)) hw _ ls _ _ hI (lv_sub hl [2, 3, 4, 1, 0] rfl) hP hD hS
        · have hw := hw.2 c_3
          refine lv_aload_n hx hb dL_worth_23 rfl (lv_at hl 0 rfl) ?_
          refine lv_iload_n hx hb dL_worth_24 rfl (lv_at hl 1 rfl) ?_
          refine lv_iload hx hb dL_worth_25 (lv_at hl 4 rfl) ?_
          refine k_value ⟨hx, hb, hml, hown, hts⟩ (cwV 2 hts gL_worth_X6_value rfl rfl rfl (by decide +kernel) ⟨Nat.le_of_ble_eq_true rfl, Nat.le_of_ble_eq_true rfl⟩) hK hI hP hD hS hA hl.1 (Nat.le_of_ble_eq_true rfl) dL_worth_27 ⟨Nat.zero_le _, Nat.zero_le _⟩ hw (fun r_4 w H locs hw hI hP hD hS => ?_)
          refine lv_goto (tgt := 34) hx hb dL_worth_30 (by decide) ?_
          refine lv_iadd hx hb dL_worth_34 ?_
          refine lv_istore_n (lv' := [(3, .int (x3 + r_4)), (0, .ref so), (1, .int a1), (2, .int a2), (4, .int x4)]) hx hb dL_worth_35 rfl hl (by decide) rfl (fun ls hl => ?_)
          refine lv_iinc (v := (x4 + (1 : Int32))) (lv' := [(4, .int (x4 + (1 : Int32))), (3, .int (x3 + r_4)), (0, .ref so), (1, .int a1), (2, .int a2)]) hx hb dL_worth_36 hl (k := 4) rfl (by first | rfl | decide) (by decide) rfl (fun ls hl => ?_)
          refine lv_goto (tgt := 5) hx hb dL_worth_39 (by decide) ?_
          exact hJ5 (x3 + r_4) (x4 + (1 : Int32)) hw _ ls _ _ hI (lv_sub hl [2, 3, 4, 1, 0] rfl) hP hD hS
  have hJ5 : ∀ (x3 : Int32) (x4 : Int32), Wp_L_worth_5 sg a1 a2 Z x3 x4 → ∀ (w : va_W) (ls : Array Slot) (H : Heap) (locs : List Loc), OI kI kA kC so sg w → lv_has ls 5 [(0, .ref so), (1, .int a1), (2, .int a2), (3, .int x3), (4, .int x4)] → va_P (dC, dI) vwCl w H → va_D A w → va_S A s.heap H locs → W p l e ({ frames := 2, cells := 0, slots := 0, locals := 43 }) s m args below meth c H locs 0 0 Q (F0 m 5 ls []) := fun x3 x4 hv => hv (fun x3 x4 => ∀ (w : va_W) (ls : Array Slot) (H : Heap) (locs : List Loc), OI kI kA kC so sg w → lv_has ls 5 [(0, .ref so), (1, .int a1), (2, .int a2), (3, .int x3), (4, .int x4)] → va_P (dC, dI) vwCl w H → va_D A w → va_S A s.heap H locs → W p l e ({ frames := 2, cells := 0, slots := 0, locals := 43 }) s m args below meth c H locs 0 0 Q (F0 m 5 ls [])) (fun J5 q5 => (key J5 q5))
  unfold Wp_L_worth at hw
  refine lv_iconst (v := (0 : Int32)) hx hb dL_worth_0 (by decide) ?_
  refine lv_istore_n (lv' := [(3, .int (0 : Int32)), (0, .ref so), (1, .int a1), (2, .int a2)]) hx hb dL_worth_1 rfl hl (by decide) rfl (fun ls hl => ?_)
  refine lv_iconst (v := (0 : Int32)) hx hb dL_worth_2 (by decide) ?_
  refine lv_istore (lv' := [(4, .int (0 : Int32)), (3, .int (0 : Int32)), (0, .ref so), (1, .int a1), (2, .int a2)]) hx hb dL_worth_3 hl (by decide) rfl (fun ls hl => ?_)
  exact hJ5 (0 : Int32) (0 : Int32) hw _ ls _ _ hI (lv_sub hl [2, 3, 4, 1, 0] rfl) hP hD hS
-- law.L_ring
def K_L_ring_23 (sg : Sg) (Z : Int32 → Prop) (J2 : Int32 → Prop) (J60 : Int32 → Int32 → Int32 → Prop) (x1 : Int32) : Prop := ((¬ x1 = (0 : Int32) → ((x1 ≤ (1 : Int32) → (J60 x1 (0 : Int32) (0 : Int32))) ∧ (¬ x1 ≤ (1 : Int32) → (Wq_count sg (0 : Int32) (fun r_22 => ((r_22 < x1 → (J60 x1 (0 : Int32) (0 : Int32))) ∧ (¬ r_22 < x1 → (Wq_count sg (2 : Int32) (fun r_24 => ((r_24 < x1 → (J60 x1 (0 : Int32) (0 : Int32))) ∧ (¬ r_24 < x1 → (J60 x1 (1 : Int32) (0 : Int32))))))))))))) ∧ (x1 = (0 : Int32) → (Z (1 : Int32))))
def B_L_ring_2 (sg : Sg) (Z : Int32 → Prop) (J2 : Int32 → Prop) (J60 : Int32 → Int32 → Int32 → Prop) (x1 : Int32) : Prop := (((5 : Int32) ≤ x1 → (K_L_ring_23 sg Z J2 J60 x1)) ∧ (¬ (5 : Int32) ≤ x1 → (Wq_ring sg x1 (fun r_2 => ((r_2 = (-9 : Int32) → (K_L_ring_23 sg Z J2 J60 x1)) ∧ (¬ r_2 = (-9 : Int32) → (J2 (x1 + (1 : Int32)))))))))
def B_L_ring_60 (sg : Sg) (Z : Int32 → Prop) (J2 : Int32 → Prop) (J60 : Int32 → Int32 → Int32 → Prop) (x1 : Int32) (x2 : Int32) (x3 : Int32) : Prop := ((x1 ≤ x3 → (narrow .boolean (.int x2) = .int x2 ∧ (Z x2))) ∧ (¬ x1 ≤ x3 → ((x2 = (0 : Int32) → (narrow .boolean (.int x2) = .int x2 ∧ (Z x2))) ∧ (¬ x2 = (0 : Int32) → (¬ x1 = (0 : Int32) ∧ (Wq_ring sg ((x3 + (1 : Int32)) - (x3 + (1 : Int32)) / x1 * x1) (fun r_9 => (Wq_ring sg x3 (fun r_10 => (Wq_ring sg (0 : Int32) (fun r_11 => ((r_10 < r_11 → (J60 x1 (0 : Int32) (x3 + (1 : Int32)))) ∧ (¬ r_10 < r_11 → (Wq_ring sg x3 (fun r_13 => (Wq_envy sg r_13 r_9 (fun r_14 => ((r_14 ≤ (0 : Int32) → (J60 x1 (0 : Int32) (x3 + (1 : Int32)))) ∧ (¬ r_14 ≤ (0 : Int32) → ((x3 = (0 : Int32) → (J60 x1 (1 : Int32) (x3 + (1 : Int32)))) ∧ (¬ x3 = (0 : Int32) → (Wq_ring sg x3 (fun r_17 => (Wq_ring sg (0 : Int32) (fun r_18 => ((r_17 = r_18 → (J60 x1 (0 : Int32) (x3 + (1 : Int32)))) ∧ (¬ r_17 = r_18 → (J60 x1 (1 : Int32) (x3 + (1 : Int32))))))))))))))))))))))))))))))
def Wp_L_ring_2 (sg : Sg) (Z : Int32 → Prop) (x1 : Int32) : Prop := ∀ (I2 : Int32 → Prop) (I60 : Int32 → Int32 → Int32 → Prop), (∀ (J2 : Int32 → Prop) (J60 : Int32 → Int32 → Int32 → Prop), (∀ (x1 : Int32), J2 x1 → I2 x1) → (∀ (x1 : Int32) (x2 : Int32) (x3 : Int32), J60 x1 x2 x3 → I60 x1 x2 x3) → ∀ (x1 : Int32), B_L_ring_2 sg Z J2 J60 x1 → I2 x1) → (∀ (J2 : Int32 → Prop) (J60 : Int32 → Int32 → Int32 → Prop), (∀ (x1 : Int32), J2 x1 → I2 x1) → (∀ (x1 : Int32) (x2 : Int32) (x3 : Int32), J60 x1 x2 x3 → I60 x1 x2 x3) → ∀ (x1 : Int32) (x2 : Int32) (x3 : Int32), B_L_ring_60 sg Z J2 J60 x1 x2 x3 → I60 x1 x2 x3) → I2 x1
def Wp_L_ring_60 (sg : Sg) (Z : Int32 → Prop) (x1 : Int32) (x2 : Int32) (x3 : Int32) : Prop := ∀ (I2 : Int32 → Prop) (I60 : Int32 → Int32 → Int32 → Prop), (∀ (J2 : Int32 → Prop) (J60 : Int32 → Int32 → Int32 → Prop), (∀ (x1 : Int32), J2 x1 → I2 x1) → (∀ (x1 : Int32) (x2 : Int32) (x3 : Int32), J60 x1 x2 x3 → I60 x1 x2 x3) → ∀ (x1 : Int32), B_L_ring_2 sg Z J2 J60 x1 → I2 x1) → (∀ (J2 : Int32 → Prop) (J60 : Int32 → Int32 → Int32 → Prop), (∀ (x1 : Int32), J2 x1 → I2 x1) → (∀ (x1 : Int32) (x2 : Int32) (x3 : Int32), J60 x1 x2 x3 → I60 x1 x2 x3) → ∀ (x1 : Int32) (x2 : Int32) (x3 : Int32), B_L_ring_60 sg Z J2 J60 x1 x2 x3 → I60 x1 x2 x3) → I60 x1 x2 x3
theorem F_L_ring_2 (sg : Sg) (Z : Int32 → Prop) (x1 : Int32) (h : B_L_ring_2 sg Z (Wp_L_ring_2 sg Z) (Wp_L_ring_60 sg Z) x1) : Wp_L_ring_2 sg Z x1 := fun I2 I60 h2 h60 => h2 _ _ (fun x1 hx => hx I2 I60 h2 h60) (fun x1 x2 x3 hx => hx I2 I60 h2 h60) x1 h
theorem F_L_ring_60 (sg : Sg) (Z : Int32 → Prop) (x1 : Int32) (x2 : Int32) (x3 : Int32) (h : B_L_ring_60 sg Z (Wp_L_ring_2 sg Z) (Wp_L_ring_60 sg Z) x1 x2 x3) : Wp_L_ring_60 sg Z x1 x2 x3 := fun I2 I60 h2 h60 => h60 _ _ (fun x1 hx => hx I2 I60 h2 h60) (fun x1 x2 x3 hx => hx I2 I60 h2 h60) x1 x2 x3 h
def Wp_L_ring (sg : Sg) (Z : Int32 → Prop) : Prop := ((Wp_L_ring_2 sg Z) (0 : Int32))
set_option maxHeartbeats 20000000 in
set_option maxRecDepth 100000 in
theorem c_L_ring (l : Launch) (dC : Nat → ClassId) (dI : Nat → Nat → Nat) (kI kA kC : ClassId) (so sz : Nat) (w : va_W) (sg : Sg)  (Z : Int32 → Prop) (hI : OI kI kA kC so sg w) (hw : Wp_L_ring sg Z) : zI l yL_ring wsL_ring ({ frames := 6, cells := 0, slots := 0, locals := 138 }) dC dI kI kA kC sz 0 0 [.ref so] w (fun (r : Int32) (u : va_W) => OI kI kA kC so sg u ∧ Z r) (fun (u : va_W) => u) := by
  refine zI.of (cc := cL_ring) (maxL := 5) (ty := .boolean) (by decide) rfl (Nat.le_of_ble_eq_true rfl) (Or.inr rfl) ?_
  intro p e s m args below meth c A Q C0 hret ls hl
  obtain ⟨hx, hb, hr, hml, hts, hown, hin, hP, hK, hD, hA, hS⟩ := C0
  have hown : s.vm.findClass RL = some m.cls := hown
  have hl : lv_has ls 5 [(0, .ref so)] := hl
  have k_23 : ∀ (J2 : Int32 → Prop) (J60 : Int32 → Int32 → Int32 → Prop) (hJ2 : ∀ (x1 : Int32), J2 x1 → ∀ (w : va_W) (ls : Array Slot) (H : Heap) (locs : List Loc), OI kI kA kC so sg w → lv_has ls 5 [(0, .ref so), (1, .int x1)] → va_P (dC, dI) vwCl w H → va_D A w → va_S A s.heap H locs → W p l e ({ frames := 6, cells := 0, slots := 0, locals := 138 }) s m args below meth c H locs 0 0 Q (F0 m 2 ls [])) (hJ60 : ∀ (x1 : Int32) (x2 : Int32) (x3 : Int32), J60 x1 x2 x3 → ∀ (w : va_W) (ls : Array Slot) (H : Heap) (locs : List Loc), OI kI kA kC so sg w → lv_has ls 5 [(0, .ref so), (1, .int x1), (2, .int x2), (3, .int x3)] → va_P (dC, dI) vwCl w H → va_D A w → va_S A s.heap H locs → W p l e ({ frames := 6, cells := 0, slots := 0, locals := 138 }) s m args below meth c H locs 0 0 Q (F0 m 60 ls [])), ∀ (x1 : Int32), K_L_ring_23 sg Z J2 J60 x1 → ∀ (w : va_W) (ls : Array Slot) (H : Heap) (locs : List Loc), OI kI kA kC so sg w → lv_has ls 5 [(0, .ref so), (1, .int x1)] → va_P (dC, dI) vwCl w H → va_D A w → va_S A s.heap H locs → W p l e ({ frames := 6, cells := 0, slots := 0, locals := 138 }) s m args below meth c H locs 0 0 Q (F0 m 23 ls []) := by
    intro J2 J60 hJ2 hJ60 x1 hw w ls H locs hI hl hP hD hS
    unfold K_L_ring_23 at hw
    refine lv_iload_n hx hb dL_ring_23 rfl (lv_at hl 1 rfl) ?_
    refine lv_if_ne (tgt := 29) hx hb dL_ring_24 (by decide) (fun c_20 => ?_) (fun c_20 => ?_)
    · have hw := hw.1 c_20
      refine lv_iload_n hx hb dL_ring_29 rfl (lv_at hl 1 rfl) ?_
      refine lv_iconst (v := (1 : Int32)) hx hb dL_ring_30 (by decide) ?_
      refine lv_icmp_le (tgt := 56) hx hb dL_ring_31 (by decide) (fun c_21 => ?_) (fun c_21 => ?_)
      · have hw := hw.1 c_21
        refine lv_iconst (v := (0 : Int32)) hx hb dL_ring_56 (by decide) ?_
        refine lv_istore_n (lv' := [(2, .int (0 : Int32)), (0, .ref so), (1, .int x1)]) hx hb dL_ring_57 rfl hl (by decide) rfl (fun ls hl => ?_)
        refine lv_iconst (v := (0 : Int32)) hx hb dL_ring_58 (by decide) ?_
        refine lv_istore_n (lv' := [(3, .int (0 : Int32)), (2, .int (0 : Int32)), (0, .ref so), (1, .int x1)]) hx hb dL_ring_59 rfl hl (by decide) rfl (fun ls hl => ?_)
        exact hJ60 x1 (0 : Int32) (0 : Int32) hw _ ls _ _ hI (lv_sub hl [2, 3, 1, 0] rfl) hP hD hS
      · have hw := hw.2 c_21
        refine lv_iload_n hx hb dL_ring_34 rfl (lv_at hl 1 rfl) ?_
        refine lv_aload_n hx hb dL_ring_35 rfl (lv_at hl 0 rfl) ?_
        refine lv_iconst (v := (0 : Int32)) hx hb dL_ring_36 (by decide) ?_
        refine k_count ⟨hx, hb, hml, hown, hts⟩ (cwV 1 hts gL_ring_X6_count rfl rfl rfl (by decide +kernel) ⟨Nat.le_of_ble_eq_true rfl, Nat.le_of_ble_eq_true rfl⟩) hK hI hP hD hS hA hl.1 (Nat.le_of_ble_eq_true rfl) dL_ring_37 ⟨Nat.zero_le _, Nat.zero_le _⟩ hw (fun r_22 w H locs hw hI hP hD hS => ?_)
        refine lv_icmp_gt (tgt := 56) hx hb dL_ring_40 (by decide) (fun c_23 => ?_) (fun c_23 => ?_)
        · have hw := hw.1 c_23
          refine lv_iconst (v := (0 : Int32)) hx hb dL_ring_56 (by decide) ?_
          refine lv_istore_n (lv' := [(2, .int (0 : Int32)), (0, .ref so), (1, .int x1)]) hx hb dL_ring_57 rfl hl (by decide) rfl (fun ls hl => ?_)
          refine lv_iconst (v := (0 : Int32)) hx hb dL_ring_58 (by decide) ?_
          refine lv_istore_n (lv' := [(3, .int (0 : Int32)), (2, .int (0 : Int32)), (0, .ref so), (1, .int x1)]) hx hb dL_ring_59 rfl hl (by decide) rfl (fun ls hl => ?_)
          exact hJ60 x1 (0 : Int32) (0 : Int32) hw _ ls _ _ hI (lv_sub hl [2, 3, 1, 0] rfl) hP hD hS
        · have hw := hw.2 c_23
          refine lv_aload_n hx hb dL_ring_43 rfl (lv_at hl 0 rfl) ?_
          refine lv_iconst (v := (2 : Int32)) hx hb dL_ring_44 (by decide) ?_
          refine k_count ⟨hx, hb, hml, hown, hts⟩ (cwV 1 hts gL_ring_X6_count rfl rfl rfl (by decide +kernel) ⟨Nat.le_of_ble_eq_true rfl, Nat.le_of_ble_eq_true rfl⟩) hK hI hP hD hS hA hl.1 (Nat.le_of_ble_eq_true rfl) dL_ring_45 ⟨Nat.zero_le _, Nat.zero_le _⟩ hw (fun r_24 w H locs hw hI hP hD hS => ?_)
          refine lv_iload_n hx hb dL_ring_48 rfl (lv_at hl 1 rfl) ?_
          refine lv_icmp_lt (tgt := 56) hx hb dL_ring_49 (by decide) (fun c_25 => ?_) (fun c_25 => ?_)
          · have hw := hw.1 c_25
            refine lv_iconst (v := (0 : Int32)) hx hb dL_ring_56 (by decide) ?_
            refine lv_istore_n (lv' := [(2, .int (0 : Int32)), (0, .ref so), (1, .int x1)]) hx hb dL_ring_57 rfl hl (by decide) rfl (fun ls hl => ?_)
            refine lv_iconst (v := (0 : Int32)) hx hb dL_ring_58 (by decide) ?_
            refine lv_istore_n (lv' := [(3, .int (0 : Int32)), (2, .int (0 : Int32)), (0, .ref so), (1, .int x1)]) hx hb dL_ring_59 rfl hl (by decide) rfl (fun ls hl => ?_)
            exact hJ60 x1 (0 : Int32) (0 : Int32) hw _ ls _ _ hI (lv_sub hl [2, 3, 1, 0] rfl) hP hD hS
          · have hw := hw.2 c_25
            refine lv_iconst (v := (1 : Int32)) hx hb dL_ring_52 (by decide) ?_
            refine lv_goto (tgt := 57) hx hb dL_ring_53 (by decide) ?_
            refine lv_istore_n (lv' := [(2, .int (1 : Int32)), (0, .ref so), (1, .int x1)]) hx hb dL_ring_57 rfl hl (by decide) rfl (fun ls hl => ?_)
            refine lv_iconst (v := (0 : Int32)) hx hb dL_ring_58 (by decide) ?_
            refine lv_istore_n (lv' := [(3, .int (0 : Int32)), (2, .int (1 : Int32)), (0, .ref so), (1, .int x1)]) hx hb dL_ring_59 rfl hl (by decide) rfl (fun ls hl => ?_)
            exact hJ60 x1 (1 : Int32) (0 : Int32) hw _ ls _ _ hI (lv_sub hl [2, 3, 1, 0] rfl) hP hD hS
    · have hw := hw.2 c_20
      refine lv_iconst (v := (1 : Int32)) hx hb dL_ring_27 (by decide) ?_
      exact hret 28 (1 : Int32) w _ _ _ (fun _ => rfl) ⟨hI, hw⟩ hP hD hS dL_ring_28
  have key : ∀ (J2 : Int32 → Prop) (J60 : Int32 → Int32 → Int32 → Prop) (hJ2 : ∀ (x1 : Int32), J2 x1 → ∀ (w : va_W) (ls : Array Slot) (H : Heap) (locs : List Loc), OI kI kA kC so sg w → lv_has ls 5 [(0, .ref so), (1, .int x1)] → va_P (dC, dI) vwCl w H → va_D A w → va_S A s.heap H locs → W p l e ({ frames := 6, cells := 0, slots := 0, locals := 138 }) s m args below meth c H locs 0 0 Q (F0 m 2 ls [])) (hJ60 : ∀ (x1 : Int32) (x2 : Int32) (x3 : Int32), J60 x1 x2 x3 → ∀ (w : va_W) (ls : Array Slot) (H : Heap) (locs : List Loc), OI kI kA kC so sg w → lv_has ls 5 [(0, .ref so), (1, .int x1), (2, .int x2), (3, .int x3)] → va_P (dC, dI) vwCl w H → va_D A w → va_S A s.heap H locs → W p l e ({ frames := 6, cells := 0, slots := 0, locals := 138 }) s m args below meth c H locs 0 0 Q (F0 m 60 ls [])), (∀ (x1 : Int32), B_L_ring_2 sg Z J2 J60 x1 → ∀ (w : va_W) (ls : Array Slot) (H : Heap) (locs : List Loc), OI kI kA kC so sg w → lv_has ls 5 [(0, .ref so), (1, .int x1)] → va_P (dC, dI) vwCl w H → va_D A w → va_S A s.heap H locs → W p l e ({ frames := 6, cells := 0, slots := 0, locals := 138 }) s m args below meth c H locs 0 0 Q (F0 m 2 ls [])) ∧ (∀ (x1 : Int32) (x2 : Int32) (x3 : Int32), B_L_ring_60 sg Z J2 J60 x1 x2 x3 → ∀ (w : va_W) (ls : Array Slot) (H : Heap) (locs : List Loc), OI kI kA kC so sg w → lv_has ls 5 [(0, .ref so), (1, .int x1), (2, .int x2), (3, .int x3)] → va_P (dC, dI) vwCl w H → va_D A w → va_S A s.heap H locs → W p l e ({ frames := 6, cells := 0, slots := 0, locals := 138 }) s m args below meth c H locs 0 0 Q (F0 m 60 ls [])) := by
    intro J2 J60 hJ2 hJ60
    refine ⟨?_, ?_⟩
    · intro x1 hw w ls H locs hI hl hP hD hS
      unfold B_L_ring_2 at hw
      refine lv_iload_n hx hb dL_ring_2 rfl (lv_at hl 1 rfl) ?_
      refine lv_iconst (v := (5 : Int32)) hx hb dL_ring_3 (by decide) ?_
      refine lv_icmp_ge (tgt := 23) hx hb dL_ring_4 (by decide) (fun c_1 => ?_) (fun c_1 => ?_)
      · have hw := hw.1 c_1
        exact k_23 _ _ hJ2 hJ60 x1 hw _ ls _ _ hI (lv_sub hl [0, 1] rfl) hP hD hS
      · have hw := hw.2 c_1
        refine lv_aload_n hx hb dL_ring_7 rfl (lv_at hl 0 rfl) ?_
        refine lv_iload_n hx hb dL_ring_8 rfl (lv_at hl 1 rfl) ?_
        refine k_ring ⟨hx, hb, hml, hown, hts⟩ (cwV 1 hts gL_ring_X6_ring rfl rfl rfl (by decide +kernel) ⟨Nat.le_of_ble_eq_true rfl, Nat.le_of_ble_eq_true rfl⟩) hK hI hP hD hS hA hl.1 (Nat.le_of_ble_eq_true rfl) dL_ring_9 ⟨Nat.zero_le _, Nat.zero_le _⟩ hw (fun r_2 w H locs hw hI hP hD hS => ?_)
        refine lv_bipush (v := (-9 : Int32)) hx hb dL_ring_12 (by decide) ?_
        refine lv_icmp_eq (tgt := 23) hx hb dL_ring_14 (by decide) (fun c_3 => ?_) (fun c_3 => ?_)
        · have hw := hw.1 c_3
          exact k_23 _ _ hJ2 hJ60 x1 hw _ ls _ _ hI (lv_sub hl [0, 1] rfl) hP hD hS
        · have hw := hw.2 c_3
          refine lv_iinc (v := (x1 + (1 : Int32))) (lv' := [(1, .int (x1 + (1 : Int32))), (0, .ref so)]) hx hb dL_ring_17 hl (k := 1) rfl (by first | rfl | decide) (by decide) rfl (fun ls hl => ?_)
          refine lv_goto (tgt := 2) hx hb dL_ring_20 (by decide) ?_
          exact hJ2 (x1 + (1 : Int32)) hw _ ls _ _ hI (lv_sub hl [1, 0] rfl) hP hD hS
    · intro x1 x2 x3 hw w ls H locs hI hl hP hD hS
      unfold B_L_ring_60 at hw
      refine lv_iload_n hx hb dL_ring_60 rfl (lv_at hl 3 rfl) ?_
      refine lv_iload_n hx hb dL_ring_61 rfl (lv_at hl 1 rfl) ?_
      refine lv_icmp_ge (tgt := 136) hx hb dL_ring_62 (by decide) (fun c_4 => ?_) (fun c_4 => ?_)
      · have hw := hw.1 c_4
        refine lv_iload_n hx hb dL_ring_136 rfl (lv_at hl 2 rfl) ?_
        obtain ⟨h_5, hw⟩ := hw
        exact hret 137 x2 w _ _ _ (fun _ => h_5) ⟨hI, hw⟩ hP hD hS dL_ring_137
      · have hw := hw.2 c_4
        refine lv_iload_n hx hb dL_ring_65 rfl (lv_at hl 2 rfl) ?_
        refine lv_if_eq (tgt := 136) hx hb dL_ring_66 (by decide) (fun c_6 => ?_) (fun c_6 => ?_)
        · have hw := hw.1 c_6
          refine lv_iload_n hx hb dL_ring_136 rfl (lv_at hl 2 rfl) ?_
          obtain ⟨h_7, hw⟩ := hw
          exact hret 137 x2 w _ _ _ (fun _ => h_7) ⟨hI, hw⟩ hP hD hS dL_ring_137
        · have hw := hw.2 c_6
          refine lv_aload_n hx hb dL_ring_69 rfl (lv_at hl 0 rfl) ?_
          refine lv_iload_n hx hb dL_ring_70 rfl (lv_at hl 3 rfl) ?_
          refine lv_iconst (v := (1 : Int32)) hx hb dL_ring_71 (by decide) ?_
          refine lv_iadd hx hb dL_ring_72 ?_
          refine lv_iload_n hx hb dL_ring_73 rfl (lv_at hl 1 rfl) ?_
          obtain ⟨h_8, hw⟩ := hw
          refine lv_irem hx hb dL_ring_74 h_8 ?_
          refine k_ring ⟨hx, hb, hml, hown, hts⟩ (cwV 1 hts gL_ring_X6_ring rfl rfl rfl (by decide +kernel) ⟨Nat.le_of_ble_eq_true rfl, Nat.le_of_ble_eq_true rfl⟩) hK hI hP hD hS hA hl.1 (Nat.le_of_ble_eq_true rfl) dL_ring_75 ⟨Nat.zero_le _, Nat.zero_le _⟩ hw (fun r_9 w H locs hw hI hP hD hS => ?_)
          refine lv_istore (lv' := [(4, .int r_9), (0, .ref so), (1, .int x1), (2, .int x2), (3, .int x3)]) hx hb dL_ring_78 hl (by decide) rfl (fun ls hl => ?_)
          refine lv_aload_n hx hb dL_ring_80 rfl (lv_at hl 1 rfl) ?_
          refine lv_iload_n hx hb dL_ring_81 rfl (lv_at hl 4 rfl) ?_
          refine k_ring ⟨hx, hb, hml, hown, hts⟩ (cwV 1 hts gL_ring_X6_ring rfl rfl rfl (by decide +kernel) ⟨Nat.le_of_ble_eq_true rfl, Nat.le_of_ble_eq_true rfl⟩) hK hI hP hD hS hA hl.1 (Nat.le_of_ble_eq_true rfl) dL_ring_82 ⟨Nat.zero_le _, Nat.zero_le _⟩ hw (fun r_10 w H locs hw hI hP hD hS => ?_)
          refine lv_aload_n hx hb dL_ring_85 rfl (lv_at hl 1 rfl) ?_
          refine lv_iconst (v := (0 : Int32)) hx hb dL_ring_86 (by decide) ?_
          refine k_ring ⟨hx, hb, hml, hown, hts⟩ (cwV 1 hts gL_ring_X6_ring rfl rfl rfl (by decide +kernel) ⟨Nat.le_of_ble_eq_true rfl, Nat.le_of_ble_eq_true rfl⟩) hK hI hP hD hS hA hl.1 (Nat.le_of_ble_eq_true rfl) dL_ring_87 ⟨Nat.zero_le _, Nat.zero_le _⟩ hw (fun r_11 w H locs hw hI hP hD hS => ?_)
          refine lv_icmp_lt (tgt := 128) hx hb dL_ring_90 (by decide) (fun c_12 => ?_) (fun c_12 => ?_)
          · have hw := hw.1 c_12
            refine lv_iconst (v := (0 : Int32)) hx hb dL_ring_128 (by decide) ?_
            refine lv_istore_n (lv' := [(2, .int (0 : Int32)), (4, .int r_9), (0, .ref so), (1, .int x1), (3, .int x3)]) hx hb dL_ring_129 rfl hl (by decide) rfl (fun ls hl => ?_)
            refine lv_iinc (v := (x3 + (1 : Int32))) (lv' := [(3, .int (x3 + (1 : Int32))), (2, .int (0 : Int32)), (4, .int r_9), (0, .ref so), (1, .int x1)]) hx hb dL_ring_130 hl (k := 4) rfl (by first | rfl | decide) (by decide) rfl (fun ls hl => ?_)
            refine lv_goto (tgt := 60) hx hb dL_ring_133 (by decide) ?_
            exact hJ60 x1 (0 : Int32) (x3 + (1 : Int32)) hw _ ls _ _ hI (lv_sub hl [3, 4, 1, 0] rfl) hP hD hS
          · have hw := hw.2 c_12
            refine lv_aload_n hx hb dL_ring_93 rfl (lv_at hl 1 rfl) ?_
            refine lv_aload_n hx hb dL_ring_94 rfl (lv_at hl 1 rfl) ?_
            refine lv_iload_n hx hb dL_ring_95 rfl (lv_at hl 4 rfl) ?_
            refine k_ring ⟨hx, hb, hml, hown, hts⟩ (cwV 1 hts gL_ring_X6_ring rfl rfl rfl (by decide +kernel) ⟨Nat.le_of_ble_eq_true rfl, Nat.le_of_ble_eq_true rfl⟩) hK hI hP hD hS hA hl.1 (Nat.le_of_ble_eq_true rfl) dL_ring_96 ⟨Nat.zero_le _, Nat.zero_le _⟩ hw (fun r_13 w H locs hw hI hP hD hS => ?_)
            refine lv_iload hx hb dL_ring_99 (lv_at hl 0 rfl) ?_
            refine k_envy ⟨hx, hb, hml, hown, hts⟩ (cwV 2 hts gL_ring_X6_envy rfl rfl rfl (by decide +kernel) ⟨Nat.le_of_ble_eq_true rfl, Nat.le_of_ble_eq_true rfl⟩) hK hI hP hD hS hA hl.1 (Nat.le_of_ble_eq_true rfl) dL_ring_101 ⟨Nat.zero_le _, Nat.zero_le _⟩ hw (fun r_14 w H locs hw hI hP hD hS => ?_)
            refine lv_if_le (tgt := 128) hx hb dL_ring_104 (by decide) (fun c_15 => ?_) (fun c_15 => ?_)
            · have hw := hw.1 c_15
              refine lv_iconst (v := (0 : Int32)) hx hb dL_ring_128 (by decide) ?_
              refine lv_istore_n (lv' := [(2, .int (0 : Int32)), (4, .int r_9), (0, .ref so), (1, .int x1), (3, .int x3)]) hx hb dL_ring_129 rfl hl (by decide) rfl (fun ls hl => ?_)
              refine lv_iinc (v := (x3 + (1 : Int32))) (lv' := [(3, .int (x3 + (1 : Int32))), (2, .int (0 : Int32)), (4, .int r_9), (0, .ref so), (1, .int x1)]) hx hb dL_ring_130 hl (k := 4) rfl (by first | rfl | decide) (by decide) rfl (fun ls hl => ?_)
              refine lv_goto (tgt := 60) hx hb dL_ring_133 (by decide) ?_
              exact hJ60 x1 (0 : Int32) (x3 + (1 : Int32)) hw _ ls _ _ hI (lv_sub hl [3, 4, 1, 0] rfl) hP hD hS
            · have hw := hw.2 c_15
              refine lv_iload_n hx hb dL_ring_107 rfl (lv_at hl 4 rfl) ?_
              refine lv_if_eq (tgt := 124) hx hb dL_ring_108 (by decide) (fun c_16 => ?_) (fun c_16 => ?_)
              · have hw := hw.1 c_16
                refine lv_iconst (v := (1 : Int32)) hx hb dL_ring_124 (by decide) ?_
                refine lv_goto (tgt := 129) hx hb dL_ring_125 (by decide) ?_
                refine lv_istore_n (lv' := [(2, .int (1 : Int32)), (4, .int r_9), (0, .ref so), (1, .int x1), (3, .int x3)]) hx hb dL_ring_129 rfl hl (by decide) rfl (fun ls hl => ?_)
                refine lv_iinc (v := (x3 + (1 : Int32))) (lv' := [(3, .int (x3 + (1 : Int32))), (2, .int (1 : Int32)), (4, .int r_9), (0, .ref so), (1, .int x1)]) hx hb dL_ring_130 hl (k := 4) rfl (by first | rfl | decide) (by decide) rfl (fun ls hl => ?_)
                refine lv_goto (tgt := 60) hx hb dL_ring_133 (by decide) ?_
                exact hJ60 x1 (1 : Int32) (x3 + (1 : Int32)) hw _ ls _ _ hI (lv_sub hl [3, 4, 1, 0] rfl) hP hD hS
              · have hw := hw.2 c_16
                refine lv_aload_n hx hb dL_ring_111 rfl (lv_at hl 1 rfl) ?_
                refine lv_iload_n hx hb dL_ring_112 rfl (lv_at hl 4 rfl) ?_
                refine k_ring ⟨hx, hb, hml, hown, hts⟩ (cwV 1 hts gL_ring_X6_ring rfl rfl rfl (by decide +kernel) ⟨Nat.le_of_ble_eq_true rfl, Nat.le_of_ble_eq_true rfl⟩) hK hI hP hD hS hA hl.1 (Nat.le_of_ble_eq_true rfl) dL_ring_113 ⟨Nat.zero_le _, Nat.zero_le _⟩ hw (fun r_17 w H locs hw hI hP hD hS => ?_)
                refine lv_aload_n hx hb dL_ring_116 rfl (lv_at hl 1 rfl) ?_
                refine lv_iconst (v := (0 : Int32)) hx hb dL_ring_117 (by decide) ?_
                refine k_ring ⟨hx, hb, hml, hown, hts⟩ (cwV 1 hts gL_ring_X6_ring rfl rfl rfl (by decide +kernel) ⟨Nat.le_of_ble_eq_true rfl, Nat.le_of_ble_eq_true rfl⟩) hK hI hP hD hS hA hl.1 (Nat.le_of_ble_eq_true rfl) dL_ring_118 ⟨Nat.zero_le _, Nat.zero_le _⟩ hw (fun r_18 w H locs hw hI hP hD hS => ?_)
                refine lv_icmp_eq (tgt := 128) hx hb dL_ring_121 (by decide) (fun c_19 => ?_) (fun c_19 => ?_)
                · have hw := hw.1 c_19
                  refine lv_iconst (v := (0 : Int32)) hx hb dL_ring_128 (by decide) ?_
                  refine lv_istore_n (lv' := [(2, .int (0 : Int32)), (4, .int r_9), (0, .ref so), (1, .int x1), (3, .int x3)]) hx hb dL_ring_129 rfl hl (by decide) rfl (fun ls hl => ?_)
                  refine lv_iinc (v := (x3 + (1 : Int32))) (lv' := [(3, .int (x3 + (1 : Int32))), (2, .int (0 : Int32)), (4, .int r_9), (0, .ref so), (1, .int x1)]) hx hb dL_ring_130 hl (k := 4) rfl (by first | rfl | decide) (by decide) rfl (fun ls hl => ?_)
                  refine lv_goto (tgt := 60) hx hb dL_ring_133 (by decide) ?_
                  exact hJ60 x1 (0 : Int32) (x3 + (1 : Int32)) hw _ ls _ _ hI (lv_sub hl [3, 4, 1, 0] rfl) hP hD hS
                · have hw := hw.2 c_19
                  refine lv_iconst (v := (1 : Int32)) hx hb dL_ring_124 (by decide) ?_
                  refine lv_goto (tgt := 129) hx hb dL_ring_125 (by decide) ?_
                  refine lv_istore_n (lv' := [(2, .int (1 : Int32)), (4, .int r_9), (0, .ref so), (1, .int x1), (3, .int x3)]) hx hb dL_ring_129 rfl hl (by decide) rfl (fun ls hl => ?_)
                  refine lv_iinc (v := (x3 + (1 : Int32))) (lv' := [(3, .int (x3 + (1 : Int32))), (2, .int (1 : Int32)), (4, .int r_9), (0, .ref so), (1, .int x1)]) hx hb dL_ring_130 hl (k := 4) rfl (by first | rfl | decide) (by decide) rfl (fun ls hl => ?_)
                  refine lv_goto (tgt := 60) hx hb dL_ring_133 (by decide) ?_
                  exact hJ60 x1 (1 : Int32) (x3 + (1 : Int32)) hw _ ls _ _ hI (lv_sub hl [3, 4, 1, 0] rfl) hP hD hS
  have hJ2 : ∀ (x1 : Int32), Wp_L_ring_2 sg Z x1 → ∀ (w : va_W) (ls : Array Slot) (H : Heap) (locs : List Loc), OI kI kA kC so sg w → lv_has ls 5 [(0, .ref so), (1, .int x1)] → va_P (dC, dI) vwCl w H → va_D A w → va_S A s.heap H locs → W p l e ({ frames := 6, cells := 0, slots := 0, locals := 138 }) s m args below meth c H locs 0 0 Q (F0 m 2 ls []) := fun x1 hv => hv (fun x1 => ∀ (w : va_W) (ls : Array Slot) (H : Heap) (locs : List Loc), OI kI kA kC so sg w → lv_has ls 5 [(0, .ref so), (1, .int x1)] → va_P (dC, dI) vwCl w H → va_D A w → va_S A s.heap H locs → W p l e ({ frames := 6, cells := 0, slots := 0, locals := 138 }) s m args below meth c H locs 0 0 Q (F0 m 2 ls [])) (fun x1 x2 x3 => ∀ (w : va_W) (ls : Array Slot) (H : Heap) (locs : List Loc), OI kI kA kC so sg w → lv_has ls 5 [(0, .ref so), (1, .int x1), (2, .int x2), (3, .int x3)] → va_P (dC, dI) vwCl w H → va_D A w → va_S A s.heap H locs → W p l e ({ frames := 6, cells := 0, slots := 0, locals := 138 }) s m args below meth c H locs 0 0 Q (F0 m 60 ls [])) (fun J2 J60 q2 q60 => (key J2 J60 q2 q60).1) (fun J2 J60 q2 q60 => (key J2 J60 q2 q60).2)
  have hJ60 : ∀ (x1 : Int32) (x2 : Int32) (x3 : Int32), Wp_L_ring_60 sg Z x1 x2 x3 → ∀ (w : va_W) (ls : Array Slot) (H : Heap) (locs : List Loc), OI kI kA kC so sg w → lv_has ls 5 [(0, .ref so), (1, .int x1), (2, .int x2), (3, .int x3)] → va_P (dC, dI) vwCl w H → va_D A w → va_S A s.heap H locs → W p l e ({ frames := 6, cells := 0, slots := 0, locals := 138 }) s m args below meth c H locs 0 0 Q (F0 m 60 ls []) := fun x1 x2 x3 hv => hv (fun x1 => ∀ (w : va_W) (ls : Array Slot) (H : Heap) (locs : List Loc), OI kI kA kC so sg w → lv_has ls 5 [(0, .ref so), (1, .int x1)] → va_P (dC, dI) vwCl w H → va_D A w → va_S A s.heap H locs → W p l e ({ frames := 6, cells := 0, slots := 0, locals := 138 }) s m args below meth c H locs 0 0 Q (F0 m 2 ls [])) (fun x1 x2 x3 => ∀ (w : va_W) (ls : Array Slot) (H : Heap) (locs : List Loc), OI kI kA kC so sg w → lv_has ls 5 [(0, .ref so), (1, .int x1), (2, .int x2), (3, .int x3)] → va_P (dC, dI) vwCl w H → va_D A w → va_S A s.heap H locs → W p l e ({ frames := 6, cells := 0, slots := 0, locals := 138 }) s m args below meth c H locs 0 0 Q (F0 m 60 ls [])) (fun J2 J60 q2 q60 => (key J2 J60 q2 q60).1) (fun J2 J60 q2 q60 => (key J2 J60 q2 q60).2)
  unfold Wp_L_ring at hw
  refine lv_iconst (v := (0 : Int32)) hx hb dL_ring_0 (by decide) ?_
  refine lv_istore_n (lv' := [(1, .int (0 : Int32)), (0, .ref so)]) hx hb dL_ring_1 rfl hl (by decide) rfl (fun ls hl => ?_)
  exact hJ2 (0 : Int32) hw _ ls _ _ hI (lv_sub hl [1, 0] rfl) hP hD hS
-- law.L_told
def B_L_told_9 (sg : Sg) (Z : Int64 → Prop) (J9 : Int64 → Int32 → Prop) (J31 : Int64 → Int32 → Int32 → Prop) (x1 : Int64) (x3 : Int32) : Prop := (((24 : Int32) ≤ x3 → (Z x1)) ∧ (¬ (24 : Int32) ≤ x3 → (Wq_crumb sg x3 (fun r_3 => (J31 (((31 : Int64) * x1) + (r_3).toInt64) x3 (0 : Int32))))))
def B_L_told_31 (sg : Sg) (Z : Int64 → Prop) (J9 : Int64 → Int32 → Prop) (J31 : Int64 → Int32 → Int32 → Prop) (x1 : Int64) (x3 : Int32) (x4 : Int32) : Prop := (Wq_count sg (0 : Int32) (fun r_4 => ((r_4 ≤ x4 → (J9 x1 (x3 + (1 : Int32)))) ∧ (¬ r_4 ≤ x4 → (Wq_value sg x4 x3 (fun r_6 => (J31 (((31 : Int64) * x1) + (r_6).toInt64) x3 (x4 + (1 : Int32)))))))))
def Wp_L_told_9 (sg : Sg) (Z : Int64 → Prop) (x1 : Int64) (x3 : Int32) : Prop := ∀ (I9 : Int64 → Int32 → Prop) (I31 : Int64 → Int32 → Int32 → Prop), (∀ (J9 : Int64 → Int32 → Prop) (J31 : Int64 → Int32 → Int32 → Prop), (∀ (x1 : Int64) (x3 : Int32), J9 x1 x3 → I9 x1 x3) → (∀ (x1 : Int64) (x3 : Int32) (x4 : Int32), J31 x1 x3 x4 → I31 x1 x3 x4) → ∀ (x1 : Int64) (x3 : Int32), B_L_told_9 sg Z J9 J31 x1 x3 → I9 x1 x3) → (∀ (J9 : Int64 → Int32 → Prop) (J31 : Int64 → Int32 → Int32 → Prop), (∀ (x1 : Int64) (x3 : Int32), J9 x1 x3 → I9 x1 x3) → (∀ (x1 : Int64) (x3 : Int32) (x4 : Int32), J31 x1 x3 x4 → I31 x1 x3 x4) → ∀ (x1 : Int64) (x3 : Int32) (x4 : Int32), B_L_told_31 sg Z J9 J31 x1 x3 x4 → I31 x1 x3 x4) → I9 x1 x3
def Wp_L_told_31 (sg : Sg) (Z : Int64 → Prop) (x1 : Int64) (x3 : Int32) (x4 : Int32) : Prop := ∀ (I9 : Int64 → Int32 → Prop) (I31 : Int64 → Int32 → Int32 → Prop), (∀ (J9 : Int64 → Int32 → Prop) (J31 : Int64 → Int32 → Int32 → Prop), (∀ (x1 : Int64) (x3 : Int32), J9 x1 x3 → I9 x1 x3) → (∀ (x1 : Int64) (x3 : Int32) (x4 : Int32), J31 x1 x3 x4 → I31 x1 x3 x4) → ∀ (x1 : Int64) (x3 : Int32), B_L_told_9 sg Z J9 J31 x1 x3 → I9 x1 x3) → (∀ (J9 : Int64 → Int32 → Prop) (J31 : Int64 → Int32 → Int32 → Prop), (∀ (x1 : Int64) (x3 : Int32), J9 x1 x3 → I9 x1 x3) → (∀ (x1 : Int64) (x3 : Int32) (x4 : Int32), J31 x1 x3 x4 → I31 x1 x3 x4) → ∀ (x1 : Int64) (x3 : Int32) (x4 : Int32), B_L_told_31 sg Z J9 J31 x1 x3 x4 → I31 x1 x3 x4) → I31 x1 x3 x4
theorem F_L_told_9 (sg : Sg) (Z : Int64 → Prop) (x1 : Int64) (x3 : Int32) (h : B_L_told_9 sg Z (Wp_L_told_9 sg Z) (Wp_L_told_31 sg Z) x1 x3) : Wp_L_told_9 sg Z x1 x3 := fun I9 I31 h9 h31 => h9 _ _ (fun x1 x3 hx => hx I9 I31 h9 h31) (fun x1 x3 x4 hx => hx I9 I31 h9 h31) x1 x3 h
theorem F_L_told_31 (sg : Sg) (Z : Int64 → Prop) (x1 : Int64) (x3 : Int32) (x4 : Int32) (h : B_L_told_31 sg Z (Wp_L_told_9 sg Z) (Wp_L_told_31 sg Z) x1 x3 x4) : Wp_L_told_31 sg Z x1 x3 x4 := fun I9 I31 h9 h31 => h31 _ _ (fun x1 x3 hx => hx I9 I31 h9 h31) (fun x1 x3 x4 hx => hx I9 I31 h9 h31) x1 x3 x4 h
def Wp_L_told (sg : Sg) (Z : Int64 → Prop) : Prop := (Wq_count sg (0 : Int32) (fun r_1 => ((Wp_L_told_9 sg Z) ((r_1).toInt64) (0 : Int32))))
set_option maxHeartbeats 20000000 in
set_option maxRecDepth 100000 in
theorem c_L_told (l : Launch) (dC : Nat → ClassId) (dI : Nat → Nat → Nat) (kI kA kC : ClassId) (so sz : Nat) (w : va_W) (sg : Sg)  (Z : Int64 → Prop) (hI : OI kI kA kC so sg w) (hw : Wp_L_told sg Z) : zL l yL_told wsL_told ({ frames := 5, cells := 0, slots := 0, locals := 114 }) dC dI kI kA kC sz 0 0 [.ref so] w (fun (r : Int64) (u : va_W) => OI kI kA kC so sg u ∧ Z r) (fun (u : va_W) => u) := by
  refine zL.of (cc := cL_told) (maxL := 5) (by decide) rfl (Nat.le_of_ble_eq_true rfl) ?_
  intro p e s m args below meth c A Q C0 hret ls hl
  obtain ⟨hx, hb, hr, hml, hts, hown, hin, hP, hK, hD, hA, hS⟩ := C0
  have hown : s.vm.findClass RL = some m.cls := hown
  have hl : lv_has ls 5 [(0, .ref so)] := hl
  have key : ∀ (J9 : Int64 → Int32 → Prop) (J31 : Int64 → Int32 → Int32 → Prop) (hJ9 : ∀ (x1 : Int64) (x3 : Int32), J9 x1 x3 → ∀ (w : va_W) (ls : Array Slot) (H : Heap) (locs : List Loc), OI kI kA kC so sg w → lv_has ls 5 [(0, .ref so), (1, .long x1), (3, .int x3)] → va_P (dC, dI) vwCl w H → va_D A w → va_S A s.heap H locs → W p l e ({ frames := 5, cells := 0, slots := 0, locals := 114 }) s m args below meth c H locs 0 0 Q (F0 m 9 ls [])) (hJ31 : ∀ (x1 : Int64) (x3 : Int32) (x4 : Int32), J31 x1 x3 x4 → ∀ (w : va_W) (ls : Array Slot) (H : Heap) (locs : List Loc), OI kI kA kC so sg w → lv_has ls 5 [(0, .ref so), (1, .long x1), (3, .int x3), (4, .int x4)] → va_P (dC, dI) vwCl w H → va_D A w → va_S A s.heap H locs → W p l e ({ frames := 5, cells := 0, slots := 0, locals := 114 }) s m args below meth c H locs 0 0 Q (F0 m 31 ls [])), (∀ (x1 : Int64) (x3 : Int32), B_L_told_9 sg Z J9 J31 x1 x3 → ∀ (w : va_W) (ls : Array Slot) (H : Heap) (locs : List Loc), OI kI kA kC so sg w → lv_has ls 5 [(0, .ref so), (1, .long x1), (3, .int x3)] → va_P (dC, dI) vwCl w H → va_D A w → va_S A s.heap H locs → W p l e ({ frames := 5, cells := 0, slots := 0, locals := 114 }) s m args below meth c H locs 0 0 Q (F0 m 9 ls [])) ∧ (∀ (x1 : Int64) (x3 : Int32) (x4 : Int32), B_L_told_31 sg Z J9 J31 x1 x3 x4 → ∀ (w : va_W) (ls : Array Slot) (H : Heap) (locs : List Loc), OI kI kA kC so sg w → lv_has ls 5 [(0, .ref so), (1, .long x1), (3, .int x3), (4, .int x4)] → va_P (dC, dI) vwCl w H → va_D A w → va_S A s.heap H locs → W p l e ({ frames := 5, cells := 0, slots := 0, locals := 114 }) s m args below meth c H locs 0 0 Q (F0 m 31 ls [])) := by
    intro J9 J31 hJ9 hJ31
    refine ⟨?_, ?_⟩
    · intro x1 x3 hw w ls H locs hI hl hP hD hS
      unfold B_L_told_9 at hw
      refine lv_iload_n hx hb dL_told_9 rfl (lv_at hl 2 rfl) ?_
      refine lv_bipush (v := (24 : Int32)) hx hb dL_told_10 (by decide) ?_
      refine lv_icmp_ge (tgt := 68) hx hb dL_told_12 (by decide) (fun c_2 => ?_) (fun c_2 => ?_)
      · have hw := hw.1 c_2
        refine lv_lload_n hx hb dL_told_68 rfl (lv_at hl 1 rfl) ?_
        exact hret 69 x1 w _ _ _ ⟨hI, hw⟩ hP hD hS dL_told_69
      · have hw := hw.2 c_2
        refine lv_ldc2 (v := (31 : Int64)) hx hb hown (hts (.constantLong RL 39 (31)) (List.mem_of_getElem? (i := 1) rfl)) dL_told_15 ?_
        refine lv_lload_n hx hb dL_told_18 rfl (lv_at hl 1 rfl) ?_
        refine lv_lmul hx hb dL_told_19 ?_
        refine lv_aload_n hx hb dL_told_20 rfl (lv_at hl 0 rfl) ?_
        refine lv_iload_n hx hb dL_told_21 rfl (lv_at hl 2 rfl) ?_
        refine k_crumb ⟨hx, hb, hml, hown, hts⟩ (cwV 1 hts gL_told_X6_crumb rfl rfl rfl (by decide +kernel) ⟨Nat.le_of_ble_eq_true rfl, Nat.le_of_ble_eq_true rfl⟩) hK hI hP hD hS hA hl.1 (Nat.le_of_ble_eq_true rfl) dL_told_22 ⟨Nat.zero_le _, Nat.zero_le _⟩ hw (fun r_3 w H locs hw hI hP hD hS => ?_)
        refine lv_i2l hx hb dL_told_25 rfl ?_
        refine lv_ladd hx hb dL_told_26 ?_
        refine lv_lstore_n (lv' := [(1, .long (((31 : Int64) * x1) + (r_3).toInt64)), (0, .ref so), (3, .int x3)]) hx hb dL_told_27 rfl hl (by decide) rfl (fun ls hl => ?_)
        refine lv_iconst (v := (0 : Int32)) hx hb dL_told_28 (by decide) ?_
        refine lv_istore (lv' := [(4, .int (0 : Int32)), (1, .long (((31 : Int64) * x1) + (r_3).toInt64)), (0, .ref so), (3, .int x3)]) hx hb dL_told_29 hl (by decide) rfl (fun ls hl => ?_)
        exact hJ31 (((31 : Int64) * x1) + (r_3).toInt64) x3 (0 : Int32) hw _ ls _ _ hI (lv_sub hl [2, 1, 3, 0] rfl) hP hD hS
    · intro x1 x3 x4 hw w ls H locs hI hl hP hD hS
      unfold B_L_told_31 at hw
      refine lv_iload hx hb dL_told_31 (lv_at hl 3 rfl) ?_
      refine lv_aload_n hx hb dL_told_33 rfl (lv_at hl 0 rfl) ?_
      refine lv_iconst (v := (0 : Int32)) hx hb dL_told_34 (by decide) ?_
      refine k_count ⟨hx, hb, hml, hown, hts⟩ (cwV 1 hts gL_told_X6_count rfl rfl rfl (by decide +kernel) ⟨Nat.le_of_ble_eq_true rfl, Nat.le_of_ble_eq_true rfl⟩) hK hI hP hD hS hA hl.1 (Nat.le_of_ble_eq_true rfl) dL_told_35 ⟨Nat.zero_le _, Nat.zero_le _⟩ hw (fun r_4 w H locs hw hI hP hD hS => ?_)
      refine lv_icmp_ge (tgt := 62) hx hb dL_told_38 (by decide) (fun c_5 => ?_) (fun c_5 => ?_)
      · have hw := hw.1 c_5
        refine lv_iinc (v := (x3 + (1 : Int32))) (lv' := [(3, .int (x3 + (1 : Int32))), (0, .ref so), (1, .long x1), (4, .int x4)]) hx hb dL_told_62 hl (k := 2) rfl (by first | rfl | decide) (by decide) rfl (fun ls hl => ?_)
        refine lv_goto (tgt := 9) hx hb dL_told_65 (by decide) ?_
        exact hJ9 x1 (x3 + (1 : Int32)) hw _ ls _ _ hI (lv_sub hl [1, 2, 0] rfl) hP hD hS
      · have hw := hw.2 c_5
        refine lv_ldc2 (v := (31 : Int64)) hx hb hown (hts (.constantLong RL 39 (31)) (List.mem_of_getElem? (i := 1) rfl)) dL_told_41 ?_
        refine lv_lload_n hx hb dL_told_44 rfl (lv_at hl 1 rfl) ?_
        refine lv_lmul hx hb dL_told_45 ?_
        refine lv_aload_n hx hb dL_told_46 rfl (lv_at hl 0 rfl) ?_
        refine lv_iload hx hb dL_told_47 (lv_at hl 3 rfl) ?_
        refine lv_iload_n hx hb dL_told_49 rfl (lv_at hl 2 rfl) ?_
        refine k_value ⟨hx, hb, hml, hown, hts⟩ (cwV 2 hts gL_told_X6_value rfl rfl rfl (by decide +kernel) ⟨Nat.le_of_ble_eq_true rfl, Nat.le_of_ble_eq_true rfl⟩) hK hI hP hD hS hA hl.1 (Nat.le_of_ble_eq_true rfl) dL_told_50 ⟨Nat.zero_le _, Nat.zero_le _⟩ hw (fun r_6 w H locs hw hI hP hD hS => ?_)
        refine lv_i2l hx hb dL_told_53 rfl ?_
        refine lv_ladd hx hb dL_told_54 ?_
        refine lv_lstore_n (lv' := [(1, .long (((31 : Int64) * x1) + (r_6).toInt64)), (0, .ref so), (3, .int x3), (4, .int x4)]) hx hb dL_told_55 rfl hl (by decide) rfl (fun ls hl => ?_)
        refine lv_iinc (v := (x4 + (1 : Int32))) (lv' := [(4, .int (x4 + (1 : Int32))), (1, .long (((31 : Int64) * x1) + (r_6).toInt64)), (0, .ref so), (3, .int x3)]) hx hb dL_told_56 hl (k := 3) rfl (by first | rfl | decide) (by decide) rfl (fun ls hl => ?_)
        refine lv_goto (tgt := 31) hx hb dL_told_59 (by decide) ?_
        exact hJ31 (((31 : Int64) * x1) + (r_6).toInt64) x3 (x4 + (1 : Int32)) hw _ ls _ _ hI (lv_sub hl [2, 1, 3, 0] rfl) hP hD hS
  have hJ9 : ∀ (x1 : Int64) (x3 : Int32), Wp_L_told_9 sg Z x1 x3 → ∀ (w : va_W) (ls : Array Slot) (H : Heap) (locs : List Loc), OI kI kA kC so sg w → lv_has ls 5 [(0, .ref so), (1, .long x1), (3, .int x3)] → va_P (dC, dI) vwCl w H → va_D A w → va_S A s.heap H locs → W p l e ({ frames := 5, cells := 0, slots := 0, locals := 114 }) s m args below meth c H locs 0 0 Q (F0 m 9 ls []) := fun x1 x3 hv => hv (fun x1 x3 => ∀ (w : va_W) (ls : Array Slot) (H : Heap) (locs : List Loc), OI kI kA kC so sg w → lv_has ls 5 [(0, .ref so), (1, .long x1), (3, .int x3)] → va_P (dC, dI) vwCl w H → va_D A w → va_S A s.heap H locs → W p l e ({ frames := 5, cells := 0, slots := 0, locals := 114 }) s m args below meth c H locs 0 0 Q (F0 m 9 ls [])) (fun x1 x3 x4 => ∀ (w : va_W) (ls : Array Slot) (H : Heap) (locs : List Loc), OI kI kA kC so sg w → lv_has ls 5 [(0, .ref so), (1, .long x1), (3, .int x3), (4, .int x4)] → va_P (dC, dI) vwCl w H → va_D A w → va_S A s.heap H locs → W p l e ({ frames := 5, cells := 0, slots := 0, locals := 114 }) s m args below meth c H locs 0 0 Q (F0 m 31 ls [])) (fun J9 J31 q9 q31 => (key J9 J31 q9 q31).1) (fun J9 J31 q9 q31 => (key J9 J31 q9 q31).2)
  have hJ31 : ∀ (x1 : Int64) (x3 : Int32) (x4 : Int32), Wp_L_told_31 sg Z x1 x3 x4 → ∀ (w : va_W) (ls : Array Slot) (H : Heap) (locs : List Loc), OI kI kA kC so sg w → lv_has ls 5 [(0, .ref so), (1, .long x1), (3, .int x3), (4, .int x4)] → va_P (dC, dI) vwCl w H → va_D A w → va_S A s.heap H locs → W p l e ({ frames := 5, cells := 0, slots := 0, locals := 114 }) s m args below meth c H locs 0 0 Q (F0 m 31 ls []) := fun x1 x3 x4 hv => hv (fun x1 x3 => ∀ (w : va_W) (ls : Array Slot) (H : Heap) (locs : List Loc), OI kI kA kC so sg w → lv_has ls 5 [(0, .ref so), (1, .long x1), (3, .int x3)] → va_P (dC, dI) vwCl w H → va_D A w → va_S A s.heap H locs → W p l e ({ frames := 5, cells := 0, slots := 0, locals := 114 }) s m args below meth c H locs 0 0 Q (F0 m 9 ls [])) (fun x1 x3 x4 => ∀ (w : va_W) (ls : Array Slot) (H : Heap) (locs : List Loc), OI kI kA kC so sg w → lv_has ls 5 [(0, .ref so), (1, .long x1), (3, .int x3), (4, .int x4)] → va_P (dC, dI) vwCl w H → va_D A w → va_S A s.heap H locs → W p l e ({ frames := 5, cells := 0, slots := 0, locals := 114 }) s m args below meth c H locs 0 0 Q (F0 m 31 ls [])) (fun J9 J31 q9 q31 => (key J9 J31 q9 q31).1) (fun J9 J31 q9 q31 => (key J9 J31 q9 q31).2)
  unfold Wp_L_told at hw
  refine lv_aload_n hx hb dL_told_0 rfl (lv_at hl 0 rfl) ?_
  refine lv_iconst (v := (0 : Int32)) hx hb dL_told_1 (by decide) ?_
  refine k_count ⟨hx, hb, hml, hown, hts⟩ (cwV 1 hts gL_told_X6_count rfl rfl rfl (by decide +kernel) ⟨Nat.le_of_ble_eq_true rfl, Nat.le_of_ble_eq_true rfl⟩) hK hI hP hD hS hA hl.1 (Nat.le_of_ble_eq_true rfl) dL_told_2 ⟨Nat.zero_le _, Nat.zero_le _⟩ hw (fun r_1 w H locs hw hI hP hD hS => ?_)
  refine lv_i2l hx hb dL_told_5 rfl ?_
  refine lv_lstore_n (lv' := [(1, .long ((r_1).toInt64)), (0, .ref so)]) hx hb dL_told_6 rfl hl (by decide) rfl (fun ls hl => ?_)
  refine lv_iconst (v := (0 : Int32)) hx hb dL_told_7 (by decide) ?_
  refine lv_istore_n (lv' := [(3, .int (0 : Int32)), (1, .long ((r_1).toInt64)), (0, .ref so)]) hx hb dL_told_8 rfl hl (by decide) rfl (fun ls hl => ?_)
  exact hJ9 ((r_1).toInt64) (0 : Int32) hw _ ls _ _ hI (lv_sub hl [2, 1, 0] rfl) hP hD hS
