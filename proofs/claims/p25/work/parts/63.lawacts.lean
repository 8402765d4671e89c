-- law.L_acts
def K_L_acts_883 (a1 : Int32) (a2 : Int32) (Z : Int32 → Sg → Prop) (J478 : Int32 → Int32 → Int32 → Int32 → Int32 → Int32 → Sg → Prop) (x3 : Int32) (x5 : Int32) (sg : Sg) : Prop := (Wq_middle sg x5 (fun r_116 => ((r_116 ≤ (0 : Int32) → (Z (0 : Int32) sg)) ∧ (¬ r_116 ≤ (0 : Int32) → (((24 : Int32) ≤ r_116 → (Z (0 : Int32) sg)) ∧ (¬ (24 : Int32) ≤ r_116 → ((x3 = (4 : Int32) → (Z (1 : Int32) sg)) ∧ (¬ x3 = (4 : Int32) → (Wq_best sg (0 : Int32) (fun r_120 => ((r_120 < (0 : Int32) → (Z (0 : Int32) sg)) ∧ (¬ r_120 < (0 : Int32) → (Wq_best sg (1 : Int32) (fun r_122 => ((r_122 ≤ (0 : Int32) → (Z (0 : Int32) sg)) ∧ (¬ r_122 ≤ (0 : Int32) → (Wq_best sg (2 : Int32) (fun r_124 => ((r_124 < (0 : Int32) → (Z (0 : Int32) sg)) ∧ (¬ r_124 < (0 : Int32) → ((x3 < (2 : Int32) → (Z (1 : Int32) sg)) ∧ (¬ x3 < (2 : Int32) → (Wq_best sg ((1 : Int32) + x3) (fun r_127 => ((r_127 ≤ (0 : Int32) → (Z (0 : Int32) sg)) ∧ (¬ r_127 ≤ (0 : Int32) → (Wq_best sg ((2 : Int32) + x3) (fun r_129 => ((¬ r_129 = (-9 : Int32) → (Z (0 : Int32) sg)) ∧ (r_129 = (-9 : Int32) → (Z (1 : Int32) sg)))))))))))))))))))))))))))))))
def K_L_acts_782 (a1 : Int32) (a2 : Int32) (Z : Int32 → Sg → Prop) (J478 : Int32 → Int32 → Int32 → Int32 → Int32 → Int32 → Sg → Prop) (x9 : Int32) (x10 : Int32) (sg : Sg) (t0 : Int32) : Prop := (Wq_exchange sg (fun r_109 sg_110 => (((0 : Int32) ≤ x9 → ((r_109 ≤ (1 : Int32) → (Z (0 : Int32) sg_110)) ∧ (¬ r_109 ≤ (1 : Int32) → (Wq_guest sg_110 x9 (1 : Int32) (fun r_113 => ((¬ r_113 = (x10 + t0) → (Z (0 : Int32) sg_110)) ∧ (r_113 = (x10 + t0) → (Z (1 : Int32) sg_110)))))))) ∧ (¬ (0 : Int32) ≤ x9 → ((¬ r_109 = (-2 : Int32) → (Z (0 : Int32) sg_110)) ∧ (r_109 = (-2 : Int32) → (Z (1 : Int32) sg_110)))))))
def K_L_acts_760 (a1 : Int32) (a2 : Int32) (Z : Int32 → Sg → Prop) (J478 : Int32 → Int32 → Int32 → Int32 → Int32 → Int32 → Sg → Prop) (x9 : Int32) (sg : Sg) (t0 : Int32) : Prop := (((0 : Int32) ≤ x9 → (Wq_ring sg (1 : Int32) (fun r_107 => (Wq_envy sg x9 r_107 (fun r_108 => (K_L_acts_782 a1 a2 Z J478 x9 t0 sg r_108)))))) ∧ (¬ (0 : Int32) ≤ x9 → (K_L_acts_782 a1 a2 Z J478 x9 t0 sg (0 : Int32))))
def K_L_acts_528 (a1 : Int32) (a2 : Int32) (Z : Int32 → Sg → Prop) (J478 : Int32 → Int32 → Int32 → Int32 → Int32 → Int32 → Sg → Prop) (x5 : Int32) (x6 : Int32) (x7 : Int32) (x10 : Int32) (sg : Sg) : Prop := (Wq_cut sg x5 x6 x7 x10 (fun r_103 sg_104 => ((¬ r_103 = (-1 : Int32) → (Z (0 : Int32) sg_104)) ∧ (r_103 = (-1 : Int32) → (Z (1 : Int32) sg_104)))))
def K_L_acts_444 (a1 : Int32) (a2 : Int32) (Z : Int32 → Sg → Prop) (J478 : Int32 → Int32 → Int32 → Int32 → Int32 → Int32 → Sg → Prop) (x5 : Int32) (x6 : Int32) (x7 : Int32) (x8 : Int32) (sg : Sg) (t0 : Int32) : Prop := (((23 : Int32) ≤ x7 → (J478 x5 x6 x7 t0 (23 : Int32) x7 sg)) ∧ (¬ (23 : Int32) ≤ x7 → ((x8 ≤ x7 → (J478 x5 x6 x7 t0 (23 : Int32) x7 sg)) ∧ (¬ x8 ≤ x7 → (J478 x5 x6 x7 t0 x8 x7 sg)))))
def K_L_acts_362 (a1 : Int32) (a2 : Int32) (Z : Int32 → Sg → Prop) (J478 : Int32 → Int32 → Int32 → Int32 → Int32 → Int32 → Sg → Prop) (x3 : Int32) (x5 : Int32) (x9 : Int32) (x10 : Int32) (x11 : Int32) (x12 : Int32) (x14 : Int32) (sg : Sg) (t0 : Int32) : Prop := ((¬ x14 = x11 → (Z (0 : Int32) sg)) ∧ (x14 = x11 → ((x3 < x14 → (Z (0 : Int32) sg)) ∧ (¬ x3 < x14 → ((t0 = (0 : Int32) → (Z (1 : Int32) sg)) ∧ (¬ t0 = (0 : Int32) → ((¬ ((x9 >>> (x5 &&& 31)) &&& (1 : Int32)) = (1 : Int32) → (Z (0 : Int32) sg)) ∧ (((x9 >>> (x5 &&& 31)) &&& (1 : Int32)) = (1 : Int32) → (Wq_guest sg x5 (1 : Int32) (fun r_98 => (Wq_guest sg x5 (0 : Int32) (fun r_99 => ((((100 : Int32) * (r_98 - x12)) < (x10 * r_99) → (Z (0 : Int32) sg)) ∧ (¬ ((100 : Int32) * (r_98 - x12)) < (x10 * r_99) → (Z (1 : Int32) sg)))))))))))))))
def B_L_acts_478 (a1 : Int32) (a2 : Int32) (Z : Int32 → Sg → Prop) (J478 : Int32 → Int32 → Int32 → Int32 → Int32 → Int32 → Sg → Prop) (x5 : Int32) (x6 : Int32) (x7 : Int32) (x9 : Int32) (x10 : Int32) (x11 : Int32) (sg : Sg) : Prop := ((x10 < x11 → ((x7 = (23 : Int32) → (K_L_acts_528 a1 a2 Z J478 x5 x6 x7 x10 sg)) ∧ (¬ x7 = (23 : Int32) → ((¬ x5 = x6 → (Wq_cut sg x5 x6 x7 x10 (fun r_76 sg_77 => ((x9 = (0 : Int32) → ((¬ r_76 = (-2 : Int32) → (Z (0 : Int32) sg_77)) ∧ (r_76 = (-2 : Int32) → (Z (1 : Int32) sg_77)))) ∧ (¬ x9 = (0 : Int32) → ((r_76 ≤ x7 → (Z (0 : Int32) sg_77)) ∧ (¬ r_76 ≤ x7 → ((x10 < r_76 → (Z (0 : Int32) sg_77)) ∧ (¬ x10 < r_76 → (Wq_crumb sg_77 x7 (fun r_82 => (Wq_crumb sg_77 (r_76 - (1 : Int32)) (fun r_83 => ((¬ r_82 = r_83 → (Z (0 : Int32) sg_77)) ∧ (r_82 = r_83 → (Wq_crumb sg_77 r_76 (fun r_85 => (Wq_crumb sg_77 x10 (fun r_86 => ((¬ r_85 = r_86 → (Z (0 : Int32) sg_77)) ∧ (r_85 = r_86 → (Wq_crumb sg_77 x7 (fun r_88 => (Wq_crumb sg_77 x10 (fun r_89 => ((r_88 = r_89 → (Z (0 : Int32) sg_77)) ∧ (¬ r_88 = r_89 → (Z (1 : Int32) sg_77)))))))))))))))))))))))))))) ∧ (x5 = x6 → (K_L_acts_528 a1 a2 Z J478 x5 x6 x7 x10 sg)))))) ∧ (¬ x10 < x11 → ((x9 = (0 : Int32) → (J478 x5 x6 x7 (0 : Int32) x10 (x11 + (1 : Int32)) sg)) ∧ (¬ x9 = (0 : Int32) → (Wq_crumb sg x11 (fun r_92 => ((¬ r_92 = (-9 : Int32) → (J478 x5 x6 x7 (0 : Int32) x10 (x11 + (1 : Int32)) sg)) ∧ (r_92 = (-9 : Int32) → (J478 x5 x6 x7 (1 : Int32) x10 (x11 + (1 : Int32)) sg)))))))))
def Wp_L_acts_478 (a1 : Int32) (a2 : Int32) (Z : Int32 → Sg → Prop) (x5 : Int32) (x6 : Int32) (x7 : Int32) (x9 : Int32) (x10 : Int32) (x11 : Int32) (sg : Sg) : Prop := ∀ (I478 : Int32 → Int32 → Int32 → Int32 → Int32 → Int32 → Sg → Prop), (∀ (J478 : Int32 → Int32 → Int32 → Int32 → Int32 → Int32 → Sg → Prop), (∀ (x5 : Int32) (x6 : Int32) (x7 : Int32) (x9 : Int32) (x10 : Int32) (x11 : Int32) (sg : Sg), J478 x5 x6 x7 x9 x10 x11 sg → I478 x5 x6 x7 x9 x10 x11 sg) → ∀ (x5 : Int32) (x6 : Int32) (x7 : Int32) (x9 : Int32) (x10 : Int32) (x11 : Int32) (sg : Sg), B_L_acts_478 a1 a2 Z J478 x5 x6 x7 x9 x10 x11 sg → I478 x5 x6 x7 x9 x10 x11 sg) → I478 x5 x6 x7 x9 x10 x11 sg
theorem F_L_acts_478 (a1 : Int32) (a2 : Int32) (Z : Int32 → Sg → Prop) (x5 : Int32) (x6 : Int32) (x7 : Int32) (x9 : Int32) (x10 : Int32) (x11 : Int32) (sg : Sg) (h : B_L_acts_478 a1 a2 Z (Wp_L_acts_478 a1 a2 Z) x5 x6 x7 x9 x10 x11 sg) : Wp_L_acts_478 a1 a2 Z x5 x6 x7 x9 x10 x11 sg := fun I478 h478 => h478 _ (fun x5 x6 x7 x9 x10 x11 sg hx => hx I478 h478) x5 x6 x7 x9 x10 x11 sg h
def Wp_L_acts (sg : Sg) (a1 : Int32) (a2 : Int32) (Z : Int32 → Sg → Prop) : Prop := (Wq_count sg (0 : Int32) (fun r_1 => (Wp_L_low (a1 >>> ((4 : Int32) &&& 31)) r_1 (fun r_2 => (Wp_L_low (a1 >>> ((8 : Int32) &&& 31)) r_1 (fun r_3 => (Wp_L_low a2 (24 : Int32) (fun r_4 => (Wp_L_low (a2 >>> ((5 : Int32) &&& 31)) ((24 : Int32) - r_4) (fun r_5 => (((3 : Int32) ≤ (a1 &&& (15 : Int32)) → (((5 : Int32) ≤ (a1 &&& (15 : Int32)) → (((7 : Int32) ≤ (a1 &&& (15 : Int32)) → (((10 : Int32) ≤ (a1 &&& (15 : Int32)) → ((¬ (a1 &&& (15 : Int32)) = (10 : Int32) → (((13 : Int32) ≤ (a1 &&& (15 : Int32)) → ((¬ (a1 &&& (15 : Int32)) = (13 : Int32) → ((¬ (a1 &&& (15 : Int32)) = (14 : Int32) → (K_L_acts_883 a1 a2 Z (Wp_L_acts_478 a1 a2 Z) r_1 r_2 sg)) ∧ ((a1 &&& (15 : Int32)) = (14 : Int32) → (((4 : Int32) ≤ r_1 → (K_L_acts_883 a1 a2 Z (Wp_L_acts_478 a1 a2 Z) r_1 r_2 sg)) ∧ (¬ (4 : Int32) ≤ r_1 → (Wq_addGuest sg (fun r_15 sg_16 => ((¬ r_15 = r_1 → (Z (0 : Int32) sg_16)) ∧ (r_15 = r_1 → (Wq_guest sg_16 r_1 (0 : Int32) (fun r_18 => ((¬ r_18 = (24 : Int32) → (Z (0 : Int32) sg_16)) ∧ (r_18 = (24 : Int32) → (Wq_guest sg_16 r_1 (2 : Int32) (fun r_20 => ((¬ r_20 = (0 : Int32) → (Z (0 : Int32) sg_16)) ∧ (r_20 = (0 : Int32) → (Z (1 : Int32) sg_16)))))))))))))))))) ∧ ((a1 &&& (15 : Int32)) = (13 : Int32) → (Wq_ring sg (0 : Int32) (fun r_22 => (((0 : Int32) ≤ r_22 → (Wq_guest sg r_22 (1 : Int32) (fun r_24 => (K_L_acts_760 a1 a2 Z (Wp_L_acts_478 a1 a2 Z) r_22 sg r_24)))) ∧ (¬ (0 : Int32) ≤ r_22 → (K_L_acts_760 a1 a2 Z (Wp_L_acts_478 a1 a2 Z) r_22 sg (0 : Int32))))))))) ∧ (¬ (13 : Int32) ≤ (a1 &&& (15 : Int32)) → ((¬ r_2 = r_3 → (Wq_count sg (1 : Int32) (fun r_26 => (Wq_trim sg r_2 r_3 (fun r_27 sg_28 => (Wq_count sg_28 (1 : Int32) (fun r_29 => ((¬ r_29 = (r_26 + r_27) → (Z (0 : Int32) sg_28)) ∧ (r_29 = (r_26 + r_27) → (Wq_envy sg_28 r_3 r_2 (fun r_31 => ((¬ r_31 = (0 : Int32) → (Z (0 : Int32) sg_28)) ∧ (r_31 = (0 : Int32) → (Z (1 : Int32) sg_28)))))))))))))) ∧ (r_2 = r_3 → (Wq_trim sg r_2 r_3 (fun r_33 sg_34 => ((¬ r_33 = (-1 : Int32) → (Z (0 : Int32) sg_34)) ∧ (r_33 = (-1 : Int32) → (Z (1 : Int32) sg_34)))))))))) ∧ ((a1 &&& (15 : Int32)) = (10 : Int32) → (((23 : Int32) ≤ r_4 → (K_L_acts_444 a1 a2 Z (Wp_L_acts_478 a1 a2 Z) r_2 r_3 r_4 (r_4 + r_5) sg (0 : Int32))) ∧ (¬ (23 : Int32) ≤ r_4 → (K_L_acts_444 a1 a2 Z (Wp_L_acts_478 a1 a2 Z) r_2 r_3 r_4 (r_4 + r_5) sg (1 : Int32))))))) ∧ (¬ (10 : Int32) ≤ (a1 &&& (15 : Int32)) → (Wp_L_low (a2 >>> ((10 : Int32) &&& 31)) (((1 : Int32) <<< (r_1 &&& 31)) - (1 : Int32)) (fun r_37 => (Wp_L_low (a2 >>> ((15 : Int32) &&& 31)) (100 : Int32) (fun r_38 => (Wq_calls sg ((1 : Int32) + r_38) ((1 : Int32) + r_37) (fun r_39 => (Wq_guest sg r_2 (1 : Int32) (fun r_40 => (Wq_guest sg r_2 (2 : Int32) (fun r_41 => (Wq_move sg ((1 : Int32) + r_38) ((1 : Int32) + r_37) (fun r_42 sg_43 => (Wq_guest sg_43 r_2 (2 : Int32) (fun r_44 => ((r_44 ≤ r_41 → (K_L_acts_362 a1 a2 Z (Wp_L_acts_478 a1 a2 Z) r_1 r_2 ((1 : Int32) + r_37) ((1 : Int32) + r_38) r_39 r_40 r_42 sg_43 (0 : Int32))) ∧ (¬ r_44 ≤ r_41 → (K_L_acts_362 a1 a2 Z (Wp_L_acts_478 a1 a2 Z) r_1 r_2 ((1 : Int32) + r_37) ((1 : Int32) + r_38) r_39 r_40 r_42 sg_43 (1 : Int32))))))))))))))))))))) ∧ (¬ (7 : Int32) ≤ (a1 &&& (15 : Int32)) → (Wq_count sg (1 : Int32) (fun r_46 => (Wq_putBack sg r_4 (r_4 + r_5) (fun r_47 sg_48 => (Wq_count sg_48 (1 : Int32) (fun r_49 => ((¬ r_49 = (r_46 + r_47) → (Z (0 : Int32) sg_48)) ∧ (r_49 = (r_46 + r_47) → (Wq_crumb sg_48 r_4 (fun r_51 => ((¬ r_51 = (-9 : Int32) → (Z (0 : Int32) sg_48)) ∧ (r_51 = (-9 : Int32) → (Wq_crumb sg_48 (r_4 + r_5) (fun r_53 => ((¬ r_53 = (-9 : Int32) → (Z (0 : Int32) sg_48)) ∧ (r_53 = (-9 : Int32) → (Z (1 : Int32) sg_48)))))))))))))))))))) ∧ (¬ (5 : Int32) ≤ (a1 &&& (15 : Int32)) → (Wq_count sg (1 : Int32) (fun r_55 => (Wq_guest sg r_2 (2 : Int32) (fun r_56 => (Wq_give sg r_2 r_4 (r_4 + r_5) (fun r_57 sg_58 => (Wq_count sg_58 (1 : Int32) (fun r_59 => ((¬ r_59 = (r_55 - r_57) → (Z (0 : Int32) sg_58)) ∧ (r_59 = (r_55 - r_57) → (Wq_guest sg_58 r_2 (2 : Int32) (fun r_61 => ((¬ r_61 = (r_56 + r_57) → (Z (0 : Int32) sg_58)) ∧ (r_61 = (r_56 + r_57) → (((((r_4 + r_5) - r_4) + (1 : Int32)) < r_57 → (Z (0 : Int32) sg_58)) ∧ (¬ (((r_4 + r_5) - r_4) + (1 : Int32)) < r_57 → (Z (1 : Int32) sg_58)))))))))))))))))))) ∧ (¬ (3 : Int32) ≤ (a1 &&& (15 : Int32)) → (Wp_L_low (a2 >>> ((10 : Int32) &&& 31)) (10 : Int32) (fun r_64 => (Wq_setValue sg r_2 r_4 (r_4 + r_5) r_64 (fun r_65 sg_66 => (Wq_guest sg_66 r_2 (0 : Int32) (fun r_67 => ((¬ r_65 = r_67 → (Z (0 : Int32) sg_66)) ∧ (r_65 = r_67 → (Wq_value sg_66 r_2 r_4 (fun r_69 => ((¬ r_69 = r_64 → (Z (0 : Int32) sg_66)) ∧ (r_69 = r_64 → (Wq_value sg_66 r_2 (r_4 + r_5) (fun r_71 => ((¬ r_71 = r_64 → (Z (0 : Int32) sg_66)) ∧ (r_71 = r_64 → (Z (1 : Int32) sg_66)))))))))))))))))))))))))))))
set_option maxHeartbeats 20000000 in
set_option maxRecDepth 100000 in
theorem c_L_acts (l : Launch) (dC : Nat → ClassId) (dI : Nat → Nat → Nat) (kI kA kC : ClassId) (so sz : Nat) (w : va_W) (sg : Sg) (a1 : Int32) (a2 : Int32) (Z : Int32 → Sg → Prop) (hI : OI kI kA kC so sg w) (hw : Wp_L_acts sg a1 a2 Z) : zI l yL_acts wsL_acts ({ frames := 7, cells := 0, slots := 0, locals := 157 }) dC dI kI kA kC sz 0 0 [.ref so, .int a1, .int a2] w (fun (r : Int32) (u : va_W × Sg) => OI kI kA kC so u.2 u.1 ∧ Z r u.2) (fun (u : va_W × Sg) => u.1) := by
  refine zI.of (cc := cL_acts) (maxL := 16) (ty := .boolean) (by decide) rfl (Nat.le_of_ble_eq_true rfl) (Or.inr rfl) ?_
  intro p e s m args below meth c A Q C0 hret ls hl
  obtain ⟨hx, hb, hr, hml, hts, hown, hin, hP, hK, hD, hA, hS⟩ := C0
  have hown : s.vm.findClass RL = some m.cls := hown
  have hl : lv_has ls 16 [(0, .ref so), (1, .int a1), (2, .int a2)] := hl
  have k_883 : ∀ (J478 : Int32 → Int32 → Int32 → Int32 → Int32 → Int32 → Sg → Prop) (hJ478 : ∀ (x5 : Int32) (x6 : Int32) (x7 : Int32) (x9 : Int32) (x10 : Int32) (x11 : Int32) (sg : Sg), J478 x5 x6 x7 x9 x10 x11 sg → ∀ (w : va_W) (ls : Array Slot) (H : Heap) (locs : List Loc), OI kI kA kC so sg w → lv_has ls 16 [(0, .ref so), (5, .int x5), (6, .int x6), (7, .int x7), (9, .int x9), (10, .int x10), (11, .int x11)] → va_P (dC, dI) vwCl w H → va_D A w → va_S A s.heap H locs → W p l e ({ frames := 7, cells := 0, slots := 0, locals := 157 }) s m args below meth c H locs 0 0 Q (F0 m 478 ls [])), ∀ (x3 : Int32) (x5 : Int32) (sg : Sg), K_L_acts_883 a1 a2 Z J478 x3 x5 sg → ∀ (w : va_W) (ls : Array Slot) (H : Heap) (locs : List Loc), OI kI kA kC so sg w → lv_has ls 16 [(0, .ref so), (3, .int x3), (5, .int x5)] → va_P (dC, dI) vwCl w H → va_D A w → va_S A s.heap H locs → W p l e ({ frames := 7, cells := 0, slots := 0, locals := 157 }) s m args below meth c H locs 0 0 Q (F0 m 883 ls []) := by
    intro J478 hJ478 x3 x5 sg hw w ls H locs hI hl hP hD hS
    unfold K_L_acts_883 at hw
    refine lv_aload_n hx hb dL_acts_883 rfl (lv_at hl 0 rfl) ?_
    refine lv_iload hx hb dL_acts_884 (lv_at hl 2 rfl) ?_
    refine k_middle ⟨hx, hb, hml, hown, hts⟩ (cwV 1 hts gL_acts_X6_middle rfl rfl rfl (by decide +kernel) ⟨Nat.le_of_ble_eq_true rfl, Nat.le_of_ble_eq_true rfl⟩) hK hI hP hD hS hA hl.1 (Nat.le_of_ble_eq_true rfl) dL_acts_886 ⟨Nat.zero_le _, Nat.zero_le _⟩ hw (fun r_116 w H locs hw hI hP hD hS => ?_)
    refine lv_istore (lv' := [(9, .int r_116), (0, .ref so), (3, .int x3), (5, .int x5)]) hx hb dL_acts_889 hl (by decide) rfl (fun ls hl => ?_)
    refine lv_iload hx hb dL_acts_891 (lv_at hl 0 rfl) ?_
    refine lv_if_le (tgt := 963) hx hb dL_acts_893 (by decide) (fun c_117 => ?_) (fun c_117 => ?_)
    · have hw := hw.1 c_117
      refine lv_iconst (v := (0 : Int32)) hx hb dL_acts_963 (by decide) ?_
      exact hret 964 (0 : Int32) (w, sg) _ _ _ (fun _ => rfl) ⟨hI, hw⟩ hP hD hS dL_acts_964
    · have hw := hw.2 c_117
      refine lv_iload hx hb dL_acts_896 (lv_at hl 0 rfl) ?_
      refine lv_bipush (v := (24 : Int32)) hx hb dL_acts_898 (by decide) ?_
      refine lv_icmp_ge (tgt := 963) hx hb dL_acts_900 (by decide) (fun c_118 => ?_) (fun c_118 => ?_)
      · have hw := hw.1 c_118
        refine lv_iconst (v := (0 : Int32)) hx hb dL_acts_963 (by decide) ?_
        exact hret 964 (0 : Int32) (w, sg) _ _ _ (fun _ => rfl) ⟨hI, hw⟩ hP hD hS dL_acts_964
      · have hw := hw.2 c_118
        refine lv_iload_n hx hb dL_acts_903 rfl (lv_at hl 2 rfl) ?_
        refine lv_iconst (v := (4 : Int32)) hx hb dL_acts_904 (by decide) ?_
        refine lv_icmp_eq (tgt := 959) hx hb dL_acts_905 (by decide) (fun c_119 => ?_) (fun c_119 => ?_)
        · have hw := hw.1 c_119
          refine lv_iconst (v := (1 : Int32)) hx hb dL_acts_959 (by decide) ?_
          refine lv_goto (tgt := 964) hx hb dL_acts_960 (by decide) ?_
          exact hret 964 (1 : Int32) (w, sg) _ _ _ (fun _ => rfl) ⟨hI, hw⟩ hP hD hS dL_acts_964
        · have hw := hw.2 c_119
          refine lv_aload_n hx hb dL_acts_908 rfl (lv_at hl 1 rfl) ?_
          refine lv_iconst (v := (0 : Int32)) hx hb dL_acts_909 (by decide) ?_
          refine k_best ⟨hx, hb, hml, hown, hts⟩ (cwV 1 hts gL_acts_X6_best rfl rfl rfl (by decide +kernel) ⟨Nat.le_of_ble_eq_true rfl, Nat.le_of_ble_eq_true rfl⟩) hK hI hP hD hS hA hl.1 (Nat.le_of_ble_eq_true rfl) dL_acts_910 ⟨Nat.zero_le _, Nat.zero_le _⟩ hw (fun r_120 w H locs hw hI hP hD hS => ?_)
          refine lv_if_lt (tgt := 963) hx hb dL_acts_913 (by decide) (fun c_121 => ?_) (fun c_121 => ?_)
          · have hw := hw.1 c_121
            refine lv_iconst (v := (0 : Int32)) hx hb dL_acts_963 (by decide) ?_
            exact hret 964 (0 : Int32) (w, sg) _ _ _ (fun _ => rfl) ⟨hI, hw⟩ hP hD hS dL_acts_964
          · have hw := hw.2 c_121
            refine lv_aload_n hx hb dL_acts_916 rfl (lv_at hl 1 rfl) ?_
            refine lv_iconst (v := (1 : Int32)) hx hb dL_acts_917 (by decide) ?_
            refine k_best ⟨hx, hb, hml, hown, hts⟩ (cwV 1 hts gL_acts_X6_best rfl rfl rfl (by decide +kernel) ⟨Nat.le_of_ble_eq_true rfl, Nat.le_of_ble_eq_true rfl⟩) hK hI hP hD hS hA hl.1 (Nat.le_of_ble_eq_true rfl) dL_acts_918 ⟨Nat.zero_le _, Nat.zero_le _⟩ hw (fun r_122 w H locs hw hI hP hD hS => ?_)
            refine lv_if_le (tgt := 963) hx hb dL_acts_921 (by decide) (fun c_123 => ?_) (fun c_123 => ?_)
            · have hw := hw.1 c_123
              refine lv_iconst (v := (0 : Int32)) hx hb dL_acts_963 (by decide) ?_
              exact hret 964 (0 : Int32) (w, sg) _ _ _ (fun _ => rfl) ⟨hI, hw⟩ hP hD hS dL_acts_964
            · have hw := hw.2 c_123
              refine lv_aload_n hx hb dL_acts_924 rfl (lv_at hl 1 rfl) ?_
              refine lv_iconst (v := (2 : Int32)) hx hb dL_acts_925 (by decide) ?_
              refine k_best ⟨hx, hb, hml, hown, hts⟩ (cwV 1 hts gL_acts_X6_best rfl rfl rfl (by decide +kernel) ⟨Nat.le_of_ble_eq_true rfl, Nat.le_of_ble_eq_true rfl⟩) hK hI hP hD hS hA hl.1 (Nat.le_of_ble_eq_true rfl) dL_acts_926 ⟨Nat.zero_le _, Nat.zero_le _⟩ hw (fun r_124 w H locs hw hI hP hD hS => ?_)
              refine lv_if_lt (tgt := 963) hx hb dL_acts_929 (by decide) (fun c_125 => ?_) (fun c_125 => ?_)
              · have hw := hw.1 c_125
                refine lv_iconst (v := (0 : Int32)) hx hb dL_acts_963 (by decide) ?_
                exact hret 964 (0 : Int32) (w, sg) _ _ _ (fun _ => rfl) ⟨hI, hw⟩ hP hD hS dL_acts_964
              · have hw := hw.2 c_125
                refine lv_iload_n hx hb dL_acts_932 rfl (lv_at hl 2 rfl) ?_
                refine lv_iconst (v := (2 : Int32)) hx hb dL_acts_933 (by decide) ?_
                refine lv_icmp_lt (tgt := 959) hx hb dL_acts_934 (by decide) (fun c_126 => ?_) (fun c_126 => ?_)
                · have hw := hw.1 c_126
                  refine lv_iconst (v := (1 : Int32)) hx hb dL_acts_959 (by decide) ?_
                  refine lv_goto (tgt := 964) hx hb dL_acts_960 (by decide) ?_
                  exact hret 964 (1 : Int32) (w, sg) _ _ _ (fun _ => rfl) ⟨hI, hw⟩ hP hD hS dL_acts_964
                · have hw := hw.2 c_126
                  refine lv_aload_n hx hb dL_acts_937 rfl (lv_at hl 1 rfl) ?_
                  refine lv_iconst (v := (1 : Int32)) hx hb dL_acts_938 (by decide) ?_
                  refine lv_iload_n hx hb dL_acts_939 rfl (lv_at hl 2 rfl) ?_
                  refine lv_iadd hx hb dL_acts_940 ?_
                  refine k_best ⟨hx, hb, hml, hown, hts⟩ (cwV 1 hts gL_acts_X6_best rfl rfl rfl (by decide +kernel) ⟨Nat.le_of_ble_eq_true rfl, Nat.le_of_ble_eq_true rfl⟩) hK hI hP hD hS hA hl.1 (Nat.le_of_ble_eq_true rfl) dL_acts_941 ⟨Nat.zero_le _, Nat.zero_le _⟩ hw (fun r_127 w H locs hw hI hP hD hS => ?_)
                  refine lv_if_le (tgt := 963) hx hb dL_acts_944 (by decide) (fun c_128 => ?_) (fun c_128 => ?_)
                  · have hw := hw.1 c_128
                    refine lv_iconst (v := (0 : Int32)) hx hb dL_acts_963 (by decide) ?_
                    exact hret 964 (0 : Int32) (w, sg) _ _ _ (fun _ => rfl) ⟨hI, hw⟩ hP hD hS dL_acts_964
                  · have hw := hw.2 c_128
                    refine lv_aload_n hx hb dL_acts_947 rfl (lv_at hl 1 rfl) ?_
                    refine lv_iconst (v := (2 : Int32)) hx hb dL_acts_948 (by decide) ?_
                    refine lv_iload_n hx hb dL_acts_949 rfl (lv_at hl 2 rfl) ?_
                    refine lv_iadd hx hb dL_acts_950 ?_
                    refine k_best ⟨hx, hb, hml, hown, hts⟩ (cwV 1 hts gL_acts_X6_best rfl rfl rfl (by decide +kernel) ⟨Nat.le_of_ble_eq_true rfl, Nat.le_of_ble_eq_true rfl⟩) hK hI hP hD hS hA hl.1 (Nat.le_of_ble_eq_true rfl) dL_acts_951 ⟨Nat.zero_le _, Nat.zero_le _⟩ hw (fun r_129 w H locs hw hI hP hD hS => ?_)
                    refine lv_bipush (v := (-9 : Int32)) hx hb dL_acts_954 (by decide) ?_
                    refine lv_icmp_ne (tgt := 963) hx hb dL_acts_956 (by decide) (fun c_130 => ?_) (fun c_130 => ?_)
                    · have hw := hw.1 c_130
                      refine lv_iconst (v := (0 : Int32)) hx hb dL_acts_963 (by decide) ?_
                      exact hret 964 (0 : Int32) (w, sg) _ _ _ (fun _ => rfl) ⟨hI, hw⟩ hP hD hS dL_acts_964
                    · have hw := hw.2 c_130
                      refine lv_iconst (v := (1 : Int32)) hx hb dL_acts_959 (by decide) ?_
                      refine lv_goto (tgt := 964) hx hb dL_acts_960 (by decide) ?_
                      exact hret 964 (1 : Int32) (w, sg) _ _ _ (fun _ => rfl) ⟨hI, hw⟩ hP hD hS dL_acts_964
  have k_782 : ∀ (J478 : Int32 → Int32 → Int32 → Int32 → Int32 → Int32 → Sg → Prop) (hJ478 : ∀ (x5 : Int32) (x6 : Int32) (x7 : Int32) (x9 : Int32) (x10 : Int32) (x11 : Int32) (sg : Sg), J478 x5 x6 x7 x9 x10 x11 sg → ∀ (w : va_W) (ls : Array Slot) (H : Heap) (locs : List Loc), OI kI kA kC so sg w → lv_has ls 16 [(0, .ref so), (5, .int x5), (6, .int x6), (7, .int x7), (9, .int x9), (10, .int x10), (11, .int x11)] → va_P (dC, dI) vwCl w H → va_D A w → va_S A s.heap H locs → W p l e ({ frames := 7, cells := 0, slots := 0, locals := 157 }) s m args below meth c H locs 0 0 Q (F0 m 478 ls [])), ∀ (x9 : Int32) (x10 : Int32) (sg : Sg) (t0 : Int32), K_L_acts_782 a1 a2 Z J478 x9 x10 sg t0 → ∀ (w : va_W) (ls : Array Slot) (H : Heap) (locs : List Loc), OI kI kA kC so sg w → lv_has ls 16 [(0, .ref so), (9, .int x9), (10, .int x10)] → va_P (dC, dI) vwCl w H → va_D A w → va_S A s.heap H locs → W p l e ({ frames := 7, cells := 0, slots := 0, locals := 157 }) s m args below meth c H locs 0 0 Q (F0 m 782 ls [.int t0]) := by
    intro J478 hJ478 x9 x10 sg t0 hw w ls H locs hI hl hP hD hS
    unfold K_L_acts_782 at hw
    refine lv_istore (lv' := [(11, .int t0), (0, .ref so), (9, .int x9), (10, .int x10)]) hx hb dL_acts_782 hl (by decide) rfl (fun ls hl => ?_)
    refine lv_aload_n hx hb dL_acts_784 rfl (lv_at hl 1 rfl) ?_
    refine k_exchange ⟨hx, hb, hml, hown, hts⟩ (cwV 0 hts gL_acts_X6_exchange rfl rfl rfl (by decide +kernel) ⟨Nat.le_of_ble_eq_true rfl, Nat.le_of_ble_eq_true rfl⟩) hK hI hP hD hS hA hl.1 (Nat.le_of_ble_eq_true rfl) dL_acts_785 ⟨Nat.zero_le _, Nat.zero_le _⟩ hw (fun r_109 sg_110 w H locs hw hI hP hD hS => ?_)
    refine lv_istore (lv' := [(12, .int r_109), (11, .int t0), (0, .ref so), (9, .int x9), (10, .int x10)]) hx hb dL_acts_788 hl (by decide) rfl (fun ls hl => ?_)
    refine lv_iload hx hb dL_acts_790 (lv_at hl 3 rfl) ?_
    refine lv_if_ge (tgt := 810) hx hb dL_acts_792 (by decide) (fun c_111 => ?_) (fun c_111 => ?_)
    · have hw := hw.1 c_111
      refine lv_iload hx hb dL_acts_810 (lv_at hl 0 rfl) ?_
      refine lv_iconst (v := (1 : Int32)) hx hb dL_acts_812 (by decide) ?_
      refine lv_icmp_le (tgt := 835) hx hb dL_acts_813 (by decide) (fun c_112 => ?_) (fun c_112 => ?_)
      · have hw := hw.1 c_112
        refine lv_iconst (v := (0 : Int32)) hx hb dL_acts_835 (by decide) ?_
        exact hret 836 (0 : Int32) (w, sg_110) _ _ _ (fun _ => rfl) ⟨hI, hw⟩ hP hD hS dL_acts_836
      · have hw := hw.2 c_112
        refine lv_aload_n hx hb dL_acts_816 rfl (lv_at hl 2 rfl) ?_
        refine lv_iload hx hb dL_acts_817 (lv_at hl 3 rfl) ?_
        refine lv_iconst (v := (1 : Int32)) hx hb dL_acts_819 (by decide) ?_
        refine k_guest ⟨hx, hb, hml, hown, hts⟩ (cwV 2 hts gL_acts_X6_guest rfl rfl rfl (by decide +kernel) ⟨Nat.le_of_ble_eq_true rfl, Nat.le_of_ble_eq_true rfl⟩) hK hI hP hD hS hA hl.1 (Nat.le_of_ble_eq_true rfl) dL_acts_820 ⟨Nat.zero_le _, Nat.zero_le _⟩ hw (fun r_113 w H locs hw hI hP hD hS => ?_)
        refine lv_iload hx hb dL_acts_823 (lv_at hl 4 rfl) ?_
        refine lv_iload hx hb dL_acts_825 (lv_at hl 1 rfl) ?_
        refine lv_iadd hx hb dL_acts_827 ?_
        refine lv_icmp_ne (tgt := 835) hx hb dL_acts_828 (by decide) (fun c_114 => ?_) (fun c_114 => ?_)
        · have hw := hw.1 c_114
          refine lv_iconst (v := (0 : Int32)) hx hb dL_acts_835 (by decide) ?_
          exact hret 836 (0 : Int32) (w, sg_110) _ _ _ (fun _ => rfl) ⟨hI, hw⟩ hP hD hS dL_acts_836
        · have hw := hw.2 c_114
          refine lv_iconst (v := (1 : Int32)) hx hb dL_acts_831 (by decide) ?_
          refine lv_goto (tgt := 836) hx hb dL_acts_832 (by decide) ?_
          exact hret 836 (1 : Int32) (w, sg_110) _ _ _ (fun _ => rfl) ⟨hI, hw⟩ hP hD hS dL_acts_836
    · have hw := hw.2 c_111
      refine lv_iload hx hb dL_acts_795 (lv_at hl 0 rfl) ?_
      refine lv_bipush (v := (-2 : Int32)) hx hb dL_acts_797 (by decide) ?_
      refine lv_icmp_ne (tgt := 806) hx hb dL_acts_799 (by decide) (fun c_115 => ?_) (fun c_115 => ?_)
      · have hw := hw.1 c_115
        refine lv_iconst (v := (0 : Int32)) hx hb dL_acts_806 (by decide) ?_
        refine lv_goto (tgt := 836) hx hb dL_acts_807 (by decide) ?_
        exact hret 836 (0 : Int32) (w, sg_110) _ _ _ (fun _ => rfl) ⟨hI, hw⟩ hP hD hS dL_acts_836
      · have hw := hw.2 c_115
        refine lv_iconst (v := (1 : Int32)) hx hb dL_acts_802 (by decide) ?_
        refine lv_goto (tgt := 836) hx hb dL_acts_803 (by decide) ?_
        exact hret 836 (1 : Int32) (w, sg_110) _ _ _ (fun _ => rfl) ⟨hI, hw⟩ hP hD hS dL_acts_836
  have k_760 : ∀ (J478 : Int32 → Int32 → Int32 → Int32 → Int32 → Int32 → Sg → Prop) (hJ478 : ∀ (x5 : Int32) (x6 : Int32) (x7 : Int32) (x9 : Int32) (x10 : Int32) (x11 : Int32) (sg : Sg), J478 x5 x6 x7 x9 x10 x11 sg → ∀ (w : va_W) (ls : Array Slot) (H : Heap) (locs : List Loc), OI kI kA kC so sg w → lv_has ls 16 [(0, .ref so), (5, .int x5), (6, .int x6), (7, .int x7), (9, .int x9), (10, .int x10), (11, .int x11)] → va_P (dC, dI) vwCl w H → va_D A w → va_S A s.heap H locs → W p l e ({ frames := 7, cells := 0, slots := 0, locals := 157 }) s m args below meth c H locs 0 0 Q (F0 m 478 ls [])), ∀ (x9 : Int32) (sg : Sg) (t0 : Int32), K_L_acts_760 a1 a2 Z J478 x9 sg t0 → ∀ (w : va_W) (ls : Array Slot) (H : Heap) (locs : List Loc), OI kI kA kC so sg w → lv_has ls 16 [(0, .ref so), (9, .int x9)] → va_P (dC, dI) vwCl w H → va_D A w → va_S A s.heap H locs → W p l e ({ frames := 7, cells := 0, slots := 0, locals := 157 }) s m args below meth c H locs 0 0 Q (F0 m 760 ls [.int t0]) := by
    intro J478 hJ478 x9 sg t0 hw w ls H locs hI hl hP hD hS
    unfold K_L_acts_760 at hw
    refine lv_istore (lv' := [(10, .int t0), (0, .ref so), (9, .int x9)]) hx hb dL_acts_760 hl (by decide) rfl (fun ls hl => ?_)
    refine lv_iload hx hb dL_acts_762 (lv_at hl 2 rfl) ?_
    refine lv_if_ge (tgt := 771) hx hb dL_acts_764 (by decide) (fun c_106 => ?_) (fun c_106 => ?_)
    · have hw := hw.1 c_106
      refine lv_aload_n hx hb dL_acts_771 rfl (lv_at hl 1 rfl) ?_
      refine lv_iload hx hb dL_acts_772 (lv_at hl 2 rfl) ?_
      refine lv_aload_n hx hb dL_acts_774 rfl (lv_at hl 1 rfl) ?_
      refine lv_iconst (v := (1 : Int32)) hx hb dL_acts_775 (by decide) ?_
      refine k_ring ⟨hx, hb, hml, hown, hts⟩ (cwV 1 hts gL_acts_X6_ring rfl rfl rfl (by decide +kernel) ⟨Nat.le_of_ble_eq_true rfl, Nat.le_of_ble_eq_true rfl⟩) hK hI hP hD hS hA hl.1 (Nat.le_of_ble_eq_true rfl) dL_acts_776 ⟨Nat.zero_le _, Nat.zero_le _⟩ hw (fun r_107 w H locs hw hI hP hD hS => ?_)
      refine k_envy ⟨hx, hb, hml, hown, hts⟩ (cwV 2 hts gL_acts_X6_envy rfl rfl rfl (by decide +kernel) ⟨Nat.le_of_ble_eq_true rfl, Nat.le_of_ble_eq_true rfl⟩) hK hI hP hD hS hA hl.1 (Nat.le_of_ble_eq_true rfl) dL_acts_779 ⟨Nat.zero_le _, Nat.zero_le _⟩ hw (fun r_108 w H locs hw hI hP hD hS => ?_)
      exact k_782 _ hJ478 x9 t0 sg r_108 hw _ ls _ _ hI (lv_sub hl [1, 2, 0] rfl) hP hD hS
    · have hw := hw.2 c_106
      refine lv_iconst (v := (0 : Int32)) hx hb dL_acts_767 (by decide) ?_
      refine lv_goto (tgt := 782) hx hb dL_acts_768 (by decide) ?_
      exact k_782 _ hJ478 x9 t0 sg (0 : Int32) hw _ ls _ _ hI (lv_sub hl [1, 2, 0] rfl) hP hD hS
  have k_528 : ∀ (J478 : Int32 → Int32 → Int32 → Int32 → Int32 → Int32 → Sg → Prop) (hJ478 : ∀ (x5 : Int32) (x6 : Int32) (x7 : Int32) (x9 : Int32) (x10 : Int32) (x11 : Int32) (sg : Sg), J478 x5 x6 x7 x9 x10 x11 sg → ∀ (w : va_W) (ls : Array Slot) (H : Heap) (locs : List Loc), OI kI kA kC so sg w → lv_has ls 16 [(0, .ref so), (5, .int x5), (6, .int x6), (7, .int x7), (9, .int x9), (10, .int x10), (11, .int x11)] → va_P (dC, dI) vwCl w H → va_D A w → va_S A s.heap H locs → W p l e ({ frames := 7, cells := 0, slots := 0, locals := 157 }) s m args below meth c H locs 0 0 Q (F0 m 478 ls [])), ∀ (x5 : Int32) (x6 : Int32) (x7 : Int32) (x10 : Int32) (sg : Sg), K_L_acts_528 a1 a2 Z J478 x5 x6 x7 x10 sg → ∀ (w : va_W) (ls : Array Slot) (H : Heap) (locs : List Loc), OI kI kA kC so sg w → lv_has ls 16 [(0, .ref so), (5, .int x5), (6, .int x6), (7, .int x7), (10, .int x10)] → va_P (dC, dI) vwCl w H → va_D A w → va_S A s.heap H locs → W p l e ({ frames := 7, cells := 0, slots := 0, locals := 157 }) s m args below meth c H locs 0 0 Q (F0 m 528 ls []) := by
    intro J478 hJ478 x5 x6 x7 x10 sg hw w ls H locs hI hl hP hD hS
    unfold K_L_acts_528 at hw
    refine lv_aload_n hx hb dL_acts_528 rfl (lv_at hl 0 rfl) ?_
    refine lv_iload hx hb dL_acts_529 (lv_at hl 1 rfl) ?_
    refine lv_iload hx hb dL_acts_531 (lv_at hl 2 rfl) ?_
    refine lv_iload hx hb dL_acts_533 (lv_at hl 3 rfl) ?_
    refine lv_iload hx hb dL_acts_535 (lv_at hl 4 rfl) ?_
    refine k_cut ⟨hx, hb, hml, hown, hts⟩ (cwV 4 hts gL_acts_X6_cut rfl rfl rfl (by decide +kernel) ⟨Nat.le_of_ble_eq_true rfl, Nat.le_of_ble_eq_true rfl⟩) hK hI hP hD hS hA hl.1 (Nat.le_of_ble_eq_true rfl) dL_acts_537 ⟨Nat.zero_le _, Nat.zero_le _⟩ hw (fun r_103 sg_104 w H locs hw hI hP hD hS => ?_)
    refine lv_iconst (v := (-1 : Int32)) hx hb dL_acts_540 (by decide) ?_
    refine lv_icmp_ne (tgt := 548) hx hb dL_acts_541 (by decide) (fun c_105 => ?_) (fun c_105 => ?_)
    · have hw := hw.1 c_105
      refine lv_iconst (v := (0 : Int32)) hx hb dL_acts_548 (by decide) ?_
      exact hret 549 (0 : Int32) (w, sg_104) _ _ _ (fun _ => rfl) ⟨hI, hw⟩ hP hD hS dL_acts_549
    · have hw := hw.2 c_105
      refine lv_iconst (v := (1 : Int32)) hx hb dL_acts_544 (by decide) ?_
      refine lv_goto (tgt := 549) hx hb dL_acts_545 (by decide) ?_
      exact hret 549 (1 : Int32) (w, sg_104) _ _ _ (fun _ => rfl) ⟨hI, hw⟩ hP hD hS dL_acts_549
  have k_444 : ∀ (J478 : Int32 → Int32 → Int32 → Int32 → Int32 → Int32 → Sg → Prop) (hJ478 : ∀ (x5 : Int32) (x6 : Int32) (x7 : Int32) (x9 : Int32) (x10 : Int32) (x11 : Int32) (sg : Sg), J478 x5 x6 x7 x9 x10 x11 sg → ∀ (w : va_W) (ls : Array Slot) (H : Heap) (locs : List Loc), OI kI kA kC so sg w → lv_has ls 16 [(0, .ref so), (5, .int x5), (6, .int x6), (7, .int x7), (9, .int x9), (10, .int x10), (11, .int x11)] → va_P (dC, dI) vwCl w H → va_D A w → va_S A s.heap H locs → W p l e ({ frames := 7, cells := 0, slots := 0, locals := 157 }) s m args below meth c H locs 0 0 Q (F0 m 478 ls [])), ∀ (x5 : Int32) (x6 : Int32) (x7 : Int32) (x8 : Int32) (sg : Sg) (t0 : Int32), K_L_acts_444 a1 a2 Z J478 x5 x6 x7 x8 sg t0 → ∀ (w : va_W) (ls : Array Slot) (H : Heap) (locs : List Loc), OI kI kA kC so sg w → lv_has ls 16 [(0, .ref so), (5, .int x5), (6, .int x6), (7, .int x7), (8, .int x8)] → va_P (dC, dI) vwCl w H → va_D A w → va_S A s.heap H locs → W p l e ({ frames := 7, cells := 0, slots := 0, locals := 157 }) s m args below meth c H locs 0 0 Q (F0 m 444 ls [.int t0]) := by
    intro J478 hJ478 x5 x6 x7 x8 sg t0 hw w ls H locs hI hl hP hD hS
    unfold K_L_acts_444 at hw
    refine lv_istore (lv' := [(9, .int t0), (0, .ref so), (5, .int x5), (6, .int x6), (7, .int x7), (8, .int x8)]) hx hb dL_acts_444 hl (by decide) rfl (fun ls hl => ?_)
    refine lv_iload hx hb dL_acts_446 (lv_at hl 4 rfl) ?_
    refine lv_bipush (v := (23 : Int32)) hx hb dL_acts_448 (by decide) ?_
    refine lv_icmp_ge (tgt := 470) hx hb dL_acts_450 (by decide) (fun c_101 => ?_) (fun c_101 => ?_)
    · have hw := hw.1 c_101
      refine lv_bipush (v := (23 : Int32)) hx hb dL_acts_470 (by decide) ?_
      refine lv_istore (lv' := [(10, .int (23 : Int32)), (9, .int t0), (0, .ref so), (5, .int x5), (6, .int x6), (7, .int x7), (8, .int x8)]) hx hb dL_acts_472 hl (by decide) rfl (fun ls hl => ?_)
      refine lv_iload hx hb dL_acts_474 (lv_at hl 5 rfl) ?_
      refine lv_istore (lv' := [(11, .int x7), (10, .int (23 : Int32)), (9, .int t0), (0, .ref so), (5, .int x5), (6, .int x6), (7, .int x7), (8, .int x8)]) hx hb dL_acts_476 hl (by decide) rfl (fun ls hl => ?_)
      exact hJ478 x5 x6 x7 t0 (23 : Int32) x7 sg hw _ ls _ _ hI (lv_sub hl [3, 4, 5, 6, 2, 1, 0] rfl) hP hD hS
    · have hw := hw.2 c_101
      refine lv_iload hx hb dL_acts_453 (lv_at hl 5 rfl) ?_
      refine lv_iload hx hb dL_acts_455 (lv_at hl 4 rfl) ?_
      refine lv_icmp_le (tgt := 465) hx hb dL_acts_457 (by decide) (fun c_102 => ?_) (fun c_102 => ?_)
      · have hw := hw.1 c_102
        refine lv_bipush (v := (23 : Int32)) hx hb dL_acts_465 (by decide) ?_
        refine lv_goto (tgt := 472) hx hb dL_acts_467 (by decide) ?_
        refine lv_istore (lv' := [(10, .int (23 : Int32)), (9, .int t0), (0, .ref so), (5, .int x5), (6, .int x6), (7, .int x7), (8, .int x8)]) hx hb dL_acts_472 hl (by decide) rfl (fun ls hl => ?_)
        refine lv_iload hx hb dL_acts_474 (lv_at hl 5 rfl) ?_
        refine lv_istore (lv' := [(11, .int x7), (10, .int (23 : Int32)), (9, .int t0), (0, .ref so), (5, .int x5), (6, .int x6), (7, .int x7), (8, .int x8)]) hx hb dL_acts_476 hl (by decide) rfl (fun ls hl => ?_)
        exact hJ478 x5 x6 x7 t0 (23 : Int32) x7 sg hw _ ls _ _ hI (lv_sub hl [3, 4, 5, 6, 2, 1, 0] rfl) hP hD hS
      · have hw := hw.2 c_102
        refine lv_iload hx hb dL_acts_460 (lv_at hl 5 rfl) ?_
        refine lv_goto (tgt := 472) hx hb dL_acts_462 (by decide) ?_
        refine lv_istore (lv' := [(10, .int x8), (9, .int t0), (0, .ref so), (5, .int x5), (6, .int x6), (7, .int x7), (8, .int x8)]) hx hb dL_acts_472 hl (by decide) rfl (fun ls hl => ?_)
        refine lv_iload hx hb dL_acts_474 (lv_at hl 5 rfl) ?_
        refine lv_istore (lv' := [(11, .int x7), (10, .int x8), (9, .int t0), (0, .ref so), (5, .int x5), (6, .int x6), (7, .int x7), (8, .int x8)]) hx hb dL_acts_476 hl (by decide) rfl (fun ls hl => ?_)
        exact hJ478 x5 x6 x7 t0 x8 x7 sg hw _ ls _ _ hI (lv_sub hl [3, 4, 5, 6, 2, 1, 0] rfl) hP hD hS
  have k_362 : ∀ (J478 : Int32 → Int32 → Int32 → Int32 → Int32 → Int32 → Sg → Prop) (hJ478 : ∀ (x5 : Int32) (x6 : Int32) (x7 : Int32) (x9 : Int32) (x10 : Int32) (x11 : Int32) (sg : Sg), J478 x5 x6 x7 x9 x10 x11 sg → ∀ (w : va_W) (ls : Array Slot) (H : Heap) (locs : List Loc), OI kI kA kC so sg w → lv_has ls 16 [(0, .ref so), (5, .int x5), (6, .int x6), (7, .int x7), (9, .int x9), (10, .int x10), (11, .int x11)] → va_P (dC, dI) vwCl w H → va_D A w → va_S A s.heap H locs → W p l e ({ frames := 7, cells := 0, slots := 0, locals := 157 }) s m args below meth c H locs 0 0 Q (F0 m 478 ls [])), ∀ (x3 : Int32) (x5 : Int32) (x9 : Int32) (x10 : Int32) (x11 : Int32) (x12 : Int32) (x14 : Int32) (sg : Sg) (t0 : Int32), K_L_acts_362 a1 a2 Z J478 x3 x5 x9 x10 x11 x12 x14 sg t0 → ∀ (w : va_W) (ls : Array Slot) (H : Heap) (locs : List Loc), OI kI kA kC so sg w → lv_has ls 16 [(0, .ref so), (3, .int x3), (5, .int x5), (9, .int x9), (10, .int x10), (11, .int x11), (12, .int x12), (14, .int x14)] → va_P (dC, dI) vwCl w H → va_D A w → va_S A s.heap H locs → W p l e ({ frames := 7, cells := 0, slots := 0, locals := 157 }) s m args below meth c H locs 0 0 Q (F0 m 362 ls [.int t0]) := by
    intro J478 hJ478 x3 x5 x9 x10 x11 x12 x14 sg t0 hw w ls H locs hI hl hP hD hS
    unfold K_L_acts_362 at hw
    refine lv_istore (lv' := [(15, .int t0), (0, .ref so), (3, .int x3), (5, .int x5), (9, .int x9), (10, .int x10), (11, .int x11), (12, .int x12), (14, .int x14)]) hx hb dL_acts_362 hl (by decide) rfl (fun ls hl => ?_)
    refine lv_iload hx hb dL_acts_364 (lv_at hl 8 rfl) ?_
    refine lv_iload hx hb dL_acts_366 (lv_at hl 6 rfl) ?_
    refine lv_icmp_ne (tgt := 423) hx hb dL_acts_368 (by decide) (fun c_94 => ?_) (fun c_94 => ?_)
    · have hw := hw.1 c_94
      refine lv_iconst (v := (0 : Int32)) hx hb dL_acts_423 (by decide) ?_
      exact hret 424 (0 : Int32) (w, sg) _ _ _ (fun _ => rfl) ⟨hI, hw⟩ hP hD hS dL_acts_424
    · have hw := hw.2 c_94
      refine lv_iload hx hb dL_acts_371 (lv_at hl 8 rfl) ?_
      refine lv_iload_n hx hb dL_acts_373 rfl (lv_at hl 2 rfl) ?_
      refine lv_icmp_gt (tgt := 423) hx hb dL_acts_374 (by decide) (fun c_95 => ?_) (fun c_95 => ?_)
      · have hw := hw.1 c_95
        refine lv_iconst (v := (0 : Int32)) hx hb dL_acts_423 (by decide) ?_
        exact hret 424 (0 : Int32) (w, sg) _ _ _ (fun _ => rfl) ⟨hI, hw⟩ hP hD hS dL_acts_424
      · have hw := hw.2 c_95
        refine lv_iload hx hb dL_acts_377 (lv_at hl 0 rfl) ?_
        refine lv_if_eq (tgt := 419) hx hb dL_acts_379 (by decide) (fun c_96 => ?_) (fun c_96 => ?_)
        · have hw := hw.1 c_96
          refine lv_iconst (v := (1 : Int32)) hx hb dL_acts_419 (by decide) ?_
          refine lv_goto (tgt := 424) hx hb dL_acts_420 (by decide) ?_
          exact hret 424 (1 : Int32) (w, sg) _ _ _ (fun _ => rfl) ⟨hI, hw⟩ hP hD hS dL_acts_424
        · have hw := hw.2 c_96
          refine lv_iload hx hb dL_acts_382 (lv_at hl 4 rfl) ?_
          refine lv_iload hx hb dL_acts_384 (lv_at hl 3 rfl) ?_
          refine lv_ishr hx hb dL_acts_386 ?_
          refine lv_iconst (v := (1 : Int32)) hx hb dL_acts_387 (by decide) ?_
          refine lv_iand hx hb dL_acts_388 ?_
          refine lv_iconst (v := (1 : Int32)) hx hb dL_acts_389 (by decide) ?_
          refine lv_icmp_ne (tgt := 423) hx hb dL_acts_390 (by decide) (fun c_97 => ?_) (fun c_97 => ?_)
          · have hw := hw.1 c_97
            refine lv_iconst (v := (0 : Int32)) hx hb dL_acts_423 (by decide) ?_
            exact hret 424 (0 : Int32) (w, sg) _ _ _ (fun _ => rfl) ⟨hI, hw⟩ hP hD hS dL_acts_424
          · have hw := hw.2 c_97
            refine lv_bipush (v := (100 : Int32)) hx hb dL_acts_393 (by decide) ?_
            refine lv_aload_n hx hb dL_acts_395 rfl (lv_at hl 1 rfl) ?_
            refine lv_iload hx hb dL_acts_396 (lv_at hl 3 rfl) ?_
            refine lv_iconst (v := (1 : Int32)) hx hb dL_acts_398 (by decide) ?_
            refine k_guest ⟨hx, hb, hml, hown, hts⟩ (cwV 2 hts gL_acts_X6_guest rfl rfl rfl (by decide +kernel) ⟨Nat.le_of_ble_eq_true rfl, Nat.le_of_ble_eq_true rfl⟩) hK hI hP hD hS hA hl.1 (Nat.le_of_ble_eq_true rfl) dL_acts_399 ⟨Nat.zero_le _, Nat.zero_le _⟩ hw (fun r_98 w H locs hw hI hP hD hS => ?_)
            refine lv_iload hx hb dL_acts_402 (lv_at hl 7 rfl) ?_
            refine lv_isub hx hb dL_acts_404 ?_
            refine lv_imul hx hb dL_acts_405 ?_
            refine lv_iload hx hb dL_acts_406 (lv_at hl 5 rfl) ?_
            refine lv_aload_n hx hb dL_acts_408 rfl (lv_at hl 1 rfl) ?_
            refine lv_iload hx hb dL_acts_409 (lv_at hl 3 rfl) ?_
            refine lv_iconst (v := (0 : Int32)) hx hb dL_acts_411 (by decide) ?_
            refine k_guest ⟨hx, hb, hml, hown, hts⟩ (cwV 2 hts gL_acts_X6_guest rfl rfl rfl (by decide +kernel) ⟨Nat.le_of_ble_eq_true rfl, Nat.le_of_ble_eq_true rfl⟩) hK hI hP hD hS hA hl.1 (Nat.le_of_ble_eq_true rfl) dL_acts_412 ⟨Nat.zero_le _, Nat.zero_le _⟩ hw (fun r_99 w H locs hw hI hP hD hS => ?_)
            refine lv_imul hx hb dL_acts_415 ?_
            refine lv_icmp_lt (tgt := 423) hx hb dL_acts_416 (by decide) (fun c_100 => ?_) (fun c_100 => ?_)
            · have hw := hw.1 c_100
              refine lv_iconst (v := (0 : Int32)) hx hb dL_acts_423 (by decide) ?_
              exact hret 424 (0 : Int32) (w, sg) _ _ _ (fun _ => rfl) ⟨hI, hw⟩ hP hD hS dL_acts_424
            · have hw := hw.2 c_100
              refine lv_iconst (v := (1 : Int32)) hx hb dL_acts_419 (by decide) ?_
              refine lv_goto (tgt := 424) hx hb dL_acts_420 (by decide) ?_
              exact hret 424 (1 : Int32) (w, sg) _ _ _ (fun _ => rfl) ⟨hI, hw⟩ hP hD hS dL_acts_424
  have key : ∀ (J478 : Int32 → Int32 → Int32 → Int32 → Int32 → Int32 → Sg → Prop) (hJ478 : ∀ (x5 : Int32) (x6 : Int32) (x7 : Int32) (x9 : Int32) (x10 : Int32) (x11 : Int32) (sg : Sg), J478 x5 x6 x7 x9 x10 x11 sg → ∀ (w : va_W) (ls : Array Slot) (H : Heap) (locs : List Loc), OI kI kA kC so sg w → lv_has ls 16 [(0, .ref so), (5, .int x5), (6, .int x6), (7, .int x7), (9, .int x9), (10, .int x10), (11, .int x11)] → va_P (dC, dI) vwCl w H → va_D A w → va_S A s.heap H locs → W p l e ({ frames := 7, cells := 0, slots := 0, locals := 157 }) s m args below meth c H locs 0 0 Q (F0 m 478 ls [])), (∀ (x5 : Int32) (x6 : Int32) (x7 : Int32) (x9 : Int32) (x10 : Int32) (x11 : Int32) (sg : Sg), B_L_acts_478 a1 a2 Z J478 x5 x6 x7 x9 x10 x11 sg → ∀ (w : va_W) (ls : Array Slot) (H : Heap) (locs : List Loc), OI kI kA kC so sg w → lv_has ls 16 [(0, .ref so), (5, .int x5), (6, .int x6), (7, .int x7), (9, .int x9), (10, .int x10), (11, .int x11)] → va_P (dC, dI) vwCl w H → va_D A w → va_S A s.heap H locs → W p l e ({ frames := 7, cells := 0, slots := 0, locals := 157 }) s m args below meth c H locs 0 0 Q (F0 m 478 ls [])) := by
    intro J478 hJ478
    · intro x5 x6 x7 x9 x10 x11 sg hw w ls H locs hI hl hP hD hS
      unfold B_L_acts_478 at hw
      refine lv_iload hx hb dL_acts_478 (lv_at hl 6 rfl) ?_
      refine lv_iload hx hb dL_acts_480 (lv_at hl 5 rfl) ?_
      refine lv_icmp_gt (tgt := 514) hx hb dL_acts_482 (by decide) (fun c_73 => ?_) (fun c_73 => ?_)
      · have hw := hw.1 c_73
        refine lv_iload hx hb dL_acts_514 (lv_at hl 3 rfl) ?_
        refine lv_bipush (v := (23 : Int32)) hx hb dL_acts_516 (by decide) ?_
        refine lv_icmp_eq (tgt := 528) hx hb dL_acts_518 (by decide) (fun c_74 => ?_) (fun c_74 => ?_)
        · have hw := hw.1 c_74
          exact k_528 _ hJ478 x5 x6 x7 x10 sg hw _ ls _ _ hI (lv_sub hl [0, 1, 2, 3, 5] rfl) hP hD hS
        · have hw := hw.2 c_74
          refine lv_iload hx hb dL_acts_521 (lv_at hl 1 rfl) ?_
          refine lv_iload hx hb dL_acts_523 (lv_at hl 2 rfl) ?_
          refine lv_icmp_ne (tgt := 550) hx hb dL_acts_525 (by decide) (fun c_75 => ?_) (fun c_75 => ?_)
          · have hw := hw.1 c_75
            refine lv_aload_n hx hb dL_acts_550 rfl (lv_at hl 0 rfl) ?_
            refine lv_iload hx hb dL_acts_551 (lv_at hl 1 rfl) ?_
            refine lv_iload hx hb dL_acts_553 (lv_at hl 2 rfl) ?_
            refine lv_iload hx hb dL_acts_555 (lv_at hl 3 rfl) ?_
            refine lv_iload hx hb dL_acts_557 (lv_at hl 5 rfl) ?_
            refine k_cut ⟨hx, hb, hml, hown, hts⟩ (cwV 4 hts gL_acts_X6_cut rfl rfl rfl (by decide +kernel) ⟨Nat.le_of_ble_eq_true rfl, Nat.le_of_ble_eq_true rfl⟩) hK hI hP hD hS hA hl.1 (Nat.le_of_ble_eq_true rfl) dL_acts_559 ⟨Nat.zero_le _, Nat.zero_le _⟩ hw (fun r_76 sg_77 w H locs hw hI hP hD hS => ?_)
            refine lv_istore (lv' := [(11, .int r_76), (0, .ref so), (5, .int x5), (6, .int x6), (7, .int x7), (9, .int x9), (10, .int x10)]) hx hb dL_acts_562 hl (by decide) rfl (fun ls hl => ?_)
            refine lv_iload hx hb dL_acts_564 (lv_at hl 5 rfl) ?_
            refine lv_if_eq (tgt := 638) hx hb dL_acts_566 (by decide) (fun c_78 => ?_) (fun c_78 => ?_)
            · have hw := hw.1 c_78
              refine lv_iload hx hb dL_acts_638 (lv_at hl 0 rfl) ?_
              refine lv_bipush (v := (-2 : Int32)) hx hb dL_acts_640 (by decide) ?_
              refine lv_icmp_ne (tgt := 649) hx hb dL_acts_642 (by decide) (fun c_79 => ?_) (fun c_79 => ?_)
              · have hw := hw.1 c_79
                refine lv_iconst (v := (0 : Int32)) hx hb dL_acts_649 (by decide) ?_
                exact hret 650 (0 : Int32) (w, sg_77) _ _ _ (fun _ => rfl) ⟨hI, hw⟩ hP hD hS dL_acts_650
              · have hw := hw.2 c_79
                refine lv_iconst (v := (1 : Int32)) hx hb dL_acts_645 (by decide) ?_
                refine lv_goto (tgt := 650) hx hb dL_acts_646 (by decide) ?_
                exact hret 650 (1 : Int32) (w, sg_77) _ _ _ (fun _ => rfl) ⟨hI, hw⟩ hP hD hS dL_acts_650
            · have hw := hw.2 c_78
              refine lv_iload hx hb dL_acts_569 (lv_at hl 0 rfl) ?_
              refine lv_iload hx hb dL_acts_571 (lv_at hl 4 rfl) ?_
              refine lv_icmp_le (tgt := 634) hx hb dL_acts_573 (by decide) (fun c_80 => ?_) (fun c_80 => ?_)
              · have hw := hw.1 c_80
                refine lv_iconst (v := (0 : Int32)) hx hb dL_acts_634 (by decide) ?_
                refine lv_goto (tgt := 650) hx hb dL_acts_635 (by decide) ?_
                exact hret 650 (0 : Int32) (w, sg_77) _ _ _ (fun _ => rfl) ⟨hI, hw⟩ hP hD hS dL_acts_650
              · have hw := hw.2 c_80
                refine lv_iload hx hb dL_acts_576 (lv_at hl 0 rfl) ?_
                refine lv_iload hx hb dL_acts_578 (lv_at hl 6 rfl) ?_
                refine lv_icmp_gt (tgt := 634) hx hb dL_acts_580 (by decide) (fun c_81 => ?_) (fun c_81 => ?_)
                · have hw := hw.1 c_81
                  refine lv_iconst (v := (0 : Int32)) hx hb dL_acts_634 (by decide) ?_
                  refine lv_goto (tgt := 650) hx hb dL_acts_635 (by decide) ?_
                  exact hret 650 (0 : Int32) (w, sg_77) _ _ _ (fun _ => rfl) ⟨hI, hw⟩ hP hD hS dL_acts_650
                · have hw := hw.2 c_81
                  refine lv_aload_n hx hb dL_acts_583 rfl (lv_at hl 1 rfl) ?_
                  refine lv_iload hx hb dL_acts_584 (lv_at hl 4 rfl) ?_
                  refine k_crumb ⟨hx, hb, hml, hown, hts⟩ (cwV 1 hts gL_acts_X6_crumb rfl rfl rfl (by decide +kernel) ⟨Nat.le_of_ble_eq_true rfl, Nat.le_of_ble_eq_true rfl⟩) hK hI hP hD hS hA hl.1 (Nat.le_of_ble_eq_true rfl) dL_acts_586 ⟨Nat.zero_le _, Nat.zero_le _⟩ hw (fun r_82 w H locs hw hI hP hD hS => ?_)
                  refine lv_aload_n hx hb dL_acts_589 rfl (lv_at hl 1 rfl) ?_
                  refine lv_iload hx hb dL_acts_590 (lv_at hl 0 rfl) ?_
                  refine lv_iconst (v := (1 : Int32)) hx hb dL_acts_592 (by decide) ?_
                  refine lv_isub hx hb dL_acts_593 ?_
                  refine k_crumb ⟨hx, hb, hml, hown, hts⟩ (cwV 1 hts gL_acts_X6_crumb rfl rfl rfl (by decide +kernel) ⟨Nat.le_of_ble_eq_true rfl, Nat.le_of_ble_eq_true rfl⟩) hK hI hP hD hS hA hl.1 (Nat.le_of_ble_eq_true rfl) dL_acts_594 ⟨Nat.zero_le _, Nat.zero_le _⟩ hw (fun r_83 w H locs hw hI hP hD hS => ?_)
                  refine lv_icmp_ne (tgt := 634) hx hb dL_acts_597 (by decide) (fun c_84 => ?_) (fun c_84 => ?_)
                  · have hw := hw.1 c_84
                    refine lv_iconst (v := (0 : Int32)) hx hb dL_acts_634 (by decide) ?_
                    refine lv_goto (tgt := 650) hx hb dL_acts_635 (by decide) ?_
                    exact hret 650 (0 : Int32) (w, sg_77) _ _ _ (fun _ => rfl) ⟨hI, hw⟩ hP hD hS dL_acts_650
                  · have hw := hw.2 c_84
                    refine lv_aload_n hx hb dL_acts_600 rfl (lv_at hl 1 rfl) ?_
                    refine lv_iload hx hb dL_acts_601 (lv_at hl 0 rfl) ?_
                    refine k_crumb ⟨hx, hb, hml, hown, hts⟩ (cwV 1 hts gL_acts_X6_crumb rfl rfl rfl (by decide +kernel) ⟨Nat.le_of_ble_eq_true rfl, Nat.le_of_ble_eq_true rfl⟩) hK hI hP hD hS hA hl.1 (Nat.le_of_ble_eq_true rfl) dL_acts_603 ⟨Nat.zero_le _, Nat.zero_le _⟩ hw (fun r_85 w H locs hw hI hP hD hS => ?_)
                    refine lv_aload_n hx hb dL_acts_606 rfl (lv_at hl 1 rfl) ?_
                    refine lv_iload hx hb dL_acts_607 (lv_at hl 6 rfl) ?_
                    refine k_crumb ⟨hx, hb, hml, hown, hts⟩ (cwV 1 hts gL_acts_X6_crumb rfl rfl rfl (by decide +kernel) ⟨Nat.le_of_ble_eq_true rfl, Nat.le_of_ble_eq_true rfl⟩) hK hI hP hD hS hA hl.1 (Nat.le_of_ble_eq_true rfl) dL_acts_609 ⟨Nat.zero_le _, Nat.zero_le _⟩ hw (fun r_86 w H locs hw hI hP hD hS => ?_)
                    refine lv_icmp_ne (tgt := 634) hx hb dL_acts_612 (by decide) (fun c_87 => ?_) (fun c_87 => ?_)
                    · have hw := hw.1 c_87
                      refine lv_iconst (v := (0 : Int32)) hx hb dL_acts_634 (by decide) ?_
                      refine lv_goto (tgt := 650) hx hb dL_acts_635 (by decide) ?_
                      exact hret 650 (0 : Int32) (w, sg_77) _ _ _ (fun _ => rfl) ⟨hI, hw⟩ hP hD hS dL_acts_650
                    · have hw := hw.2 c_87
                      refine lv_aload_n hx hb dL_acts_615 rfl (lv_at hl 1 rfl) ?_
                      refine lv_iload hx hb dL_acts_616 (lv_at hl 4 rfl) ?_
                      refine k_crumb ⟨hx, hb, hml, hown, hts⟩ (cwV 1 hts gL_acts_X6_crumb rfl rfl rfl (by decide +kernel) ⟨Nat.le_of_ble_eq_true rfl, Nat.le_of_ble_eq_true rfl⟩) hK hI hP hD hS hA hl.1 (Nat.le_of_ble_eq_true rfl) dL_acts_618 ⟨Nat.zero_le _, Nat.zero_le _⟩ hw (fun r_88 w H locs hw hI hP hD hS => ?_)
                      refine lv_aload_n hx hb dL_acts_621 rfl (lv_at hl 1 rfl) ?_
                      refine lv_iload hx hb dL_acts_622 (lv_at hl 6 rfl) ?_
                      refine k_crumb ⟨hx, hb, hml, hown, hts⟩ (cwV 1 hts gL_acts_X6_crumb rfl rfl rfl (by decide +kernel) ⟨Nat.le_of_ble_eq_true rfl, Nat.le_of_ble_eq_true rfl⟩) hK hI hP hD hS hA hl.1 (Nat.le_of_ble_eq_true rfl) dL_acts_624 ⟨Nat.zero_le _, Nat.zero_le _⟩ hw (fun r_89 w H locs hw hI hP hD hS => ?_)
                      refine lv_icmp_eq (tgt := 634) hx hb dL_acts_627 (by decide) (fun c_90 => ?_) (fun c_90 => ?_)
                      · have hw := hw.1 c_90
                        refine lv_iconst (v := (0 : Int32)) hx hb dL_acts_634 (by decide) ?_
                        refine lv_goto (tgt := 650) hx hb dL_acts_635 (by decide) ?_
                        exact hret 650 (0 : Int32) (w, sg_77) _ _ _ (fun _ => rfl) ⟨hI, hw⟩ hP hD hS dL_acts_650
                      · have hw := hw.2 c_90
                        refine lv_iconst (v := (1 : Int32)) hx hb dL_acts_630 (by decide) ?_
                        refine lv_goto (tgt := 650) hx hb dL_acts_631 (by decide) ?_
                        exact hret 650 (1 : Int32) (w, sg_77) _ _ _ (fun _ => rfl) ⟨hI, hw⟩ hP hD hS dL_acts_650
          · have hw := hw.2 c_75
            exact k_528 _ hJ478 x5 x6 x7 x10 sg hw _ ls _ _ hI (lv_sub hl [0, 1, 2, 3, 5] rfl) hP hD hS
      · have hw := hw.2 c_73
        refine lv_iload hx hb dL_acts_485 (lv_at hl 4 rfl) ?_
        refine lv_if_eq (tgt := 505) hx hb dL_acts_487 (by decide) (fun c_91 => ?_) (fun c_91 => ?_)
        · have hw := hw.1 c_91
          refine lv_iconst (v := (0 : Int32)) hx hb dL_acts_505 (by decide) ?_
          refine lv_istore (lv' := [(9, .int (0 : Int32)), (0, .ref so), (5, .int x5), (6, .int x6), (7, .int x7), (10, .int x10), (11, .int x11)]) hx hb dL_acts_506 hl (by decide) rfl (fun ls hl => ?_)
          refine lv_iinc (v := (x11 + (1 : Int32))) (lv' := [(11, .int (x11 + (1 : Int32))), (9, .int (0 : Int32)), (0, .ref so), (5, .int x5), (6, .int x6), (7, .int x7), (10, .int x10)]) hx hb dL_acts_508 hl (k := 6) rfl (by first | rfl | decide) (by decide) rfl (fun ls hl => ?_)
          refine lv_goto (tgt := 478) hx hb dL_acts_511 (by decide) ?_
          exact hJ478 x5 x6 x7 (0 : Int32) x10 (x11 + (1 : Int32)) sg hw _ ls _ _ hI (lv_sub hl [2, 3, 4, 5, 1, 6, 0] rfl) hP hD hS
        · have hw := hw.2 c_91
          refine lv_aload_n hx hb dL_acts_490 rfl (lv_at hl 0 rfl) ?_
          refine lv_iload hx hb dL_acts_491 (lv_at hl 6 rfl) ?_
          refine k_crumb ⟨hx, hb, hml, hown, hts⟩ (cwV 1 hts gL_acts_X6_crumb rfl rfl rfl (by decide +kernel) ⟨Nat.le_of_ble_eq_true rfl, Nat.le_of_ble_eq_true rfl⟩) hK hI hP hD hS hA hl.1 (Nat.le_of_ble_eq_true rfl) dL_acts_493 ⟨Nat.zero_le _, Nat.zero_le _⟩ hw (fun r_92 w H locs hw hI hP hD hS => ?_)
          refine lv_bipush (v := (-9 : Int32)) hx hb dL_acts_496 (by decide) ?_
          refine lv_icmp_ne (tgt := 505) hx hb dL_acts_498 (by decide) (fun c_93 => ?_) (fun c_93 => ?_)
          · have hw := hw.1 c_93
            refine lv_iconst (v := (0 : Int32)) hx hb dL_acts_505 (by decide) ?_
            refine lv_istore (lv' := [(9, .int (0 : Int32)), (0, .ref so), (5, .int x5), (6, .int x6), (7, .int x7), (10, .int x10), (11, .int x11)]) hx hb dL_acts_506 hl (by decide) rfl (fun ls hl => ?_)
            refine lv_iinc (v := (x11 + (1 : Int32))) (lv' := [(11, .int (x11 + (1 : Int32))), (9, .int (0 : Int32)), (0, .ref so), (5, .int x5), (6, .int x6), (7, .int x7), (10, .int x10)]) hx hb dL_acts_508 hl (k := 6) rfl (by first | rfl | decide) (by decide) rfl (fun ls hl => ?_)
            refine lv_goto (tgt := 478) hx hb dL_acts_511 (by decide) ?_
            exact hJ478 x5 x6 x7 (0 : Int32) x10 (x11 + (1 : Int32)) sg hw _ ls _ _ hI (lv_sub hl [2, 3, 4, 5, 1, 6, 0] rfl) hP hD hS
          · have hw := hw.2 c_93
            refine lv_iconst (v := (1 : Int32)) hx hb dL_acts_501 (by decide) ?_
            refine lv_goto (tgt := 506) hx hb dL_acts_502 (by decide) ?_
            refine lv_istore (lv' := [(9, .int (1 : Int32)), (0, .ref so), (5, .int x5), (6, .int x6), (7, .int x7), (10, .int x10), (11, .int x11)]) hx hb dL_acts_506 hl (by decide) rfl (fun ls hl => ?_)
            refine lv_iinc (v := (x11 + (1 : Int32))) (lv' := [(11, .int (x11 + (1 : Int32))), (9, .int (1 : Int32)), (0, .ref so), (5, .int x5), (6, .int x6), (7, .int x7), (10, .int x10)]) hx hb dL_acts_508 hl (k := 6) rfl (by first | rfl | decide) (by decide) rfl (fun ls hl => ?_)
            refine lv_goto (tgt := 478) hx hb dL_acts_511 (by decide) ?_
            exact hJ478 x5 x6 x7 (1 : Int32) x10 (x11 + (1 : Int32)) sg hw _ ls _ _ hI (lv_sub hl [2, 3, 4, 5, 1, 6, 0] rfl) hP hD hS
  have hJ478 : ∀ (x5 : Int32) (x6 : Int32) (x7 : Int32) (x9 : Int32) (x10 : Int32) (x11 : Int32) (sg : Sg), Wp_L_acts_478 a1 a2 Z x5 x6 x7 x9 x10 x11 sg → ∀ (w : va_W) (ls : Array Slot) (H : Heap) (locs : List Loc), OI kI kA kC so sg w → lv_has ls 16 [(0, .ref so), (5, .int x5), (6, .int x6), (7, .int x7), (9, .int x9), (10, .int x10), (11, .int x11)] → va_P (dC, dI) vwCl w H → va_D A w → va_S A s.heap H locs → W p l e ({ frames := 7, cells := 0, slots := 0, locals := 157 }) s m args below meth c H locs 0 0 Q (F0 m 478 ls []) := fun x5 x6 x7 x9 x10 x11 sg hv => hv (fun x5 x6 x7 x9 x10 x11 sg => ∀ (w : va_W) (ls : Array Slot) (H : Heap) (locs : List Loc), OI kI kA kC so sg w → lv_has ls 16 [(0, .ref so), (5, .int x5), (6, .int x6), (7, .int x7), (9, .int x9), (10, .int x10), (11, .int x11)] → va_P (dC, dI) vwCl w H → va_D A w → va_S A s.heap H locs → W p l e ({ frames := 7, cells := 0, slots := 0, locals := 157 }) s m args below meth c H locs 0 0 Q (F0 m 478 ls [])) (fun J478 q478 => (key J478 q478))
  unfold Wp_L_acts at hw
  refine lv_aload_n hx hb dL_acts_0 rfl (lv_at hl 0 rfl) ?_
  refine lv_iconst (v := (0 : Int32)) hx hb dL_acts_1 (by decide) ?_
  refine k_count ⟨hx, hb, hml, hown, hts⟩ (cwV 1 hts gL_acts_X6_count rfl rfl rfl (by decide +kernel) ⟨Nat.le_of_ble_eq_true rfl, Nat.le_of_ble_eq_true rfl⟩) hK hI hP hD hS hA hl.1 (Nat.le_of_ble_eq_true rfl) dL_acts_2 ⟨Nat.zero_le _, Nat.zero_le _⟩ hw (fun r_1 w H locs hw hI hP hD hS => ?_)
  refine lv_istore_n (lv' := [(3, .int r_1), (0, .ref so), (1, .int a1), (2, .int a2)]) hx hb dL_acts_5 rfl hl (by decide) rfl (fun ls hl => ?_)
  refine lv_iload_n hx hb dL_acts_6 rfl (lv_at hl 2 rfl) ?_
  refine lv_bipush (v := (15 : Int32)) hx hb dL_acts_7 (by decide) ?_
  refine lv_iand hx hb dL_acts_9 ?_
  refine lv_istore (lv' := [(4, .int (a1 &&& (15 : Int32))), (3, .int r_1), (0, .ref so), (1, .int a1), (2, .int a2)]) hx hb dL_acts_10 hl (by decide) rfl (fun ls hl => ?_)
  refine lv_iload_n hx hb dL_acts_12 rfl (lv_at hl 3 rfl) ?_
  refine lv_iconst (v := (4 : Int32)) hx hb dL_acts_13 (by decide) ?_
  refine lv_ishr hx hb dL_acts_14 ?_
  refine lv_iload_n hx hb dL_acts_15 rfl (lv_at hl 1 rfl) ?_
  refine zcallS0 (As := [.int (a1 >>> ((4 : Int32) &&& 31)), .int r_1]) (rest := []) ⟨hx, hb, hml, hown, hts⟩ (c_L_low l dC dI kI kA kC _ (a1 >>> ((4 : Int32) &&& 31)) r_1 _ hw) (va_cwS 2 hts gL_acts_L_low rfl rfl rfl (by decide +kernel) ⟨Nat.le_of_ble_eq_true rfl, Nat.le_of_ble_eq_true rfl⟩) hK hP hD hS hA rfl hl.1 rfl (Nat.le_of_ble_eq_true rfl) dL_acts_16 ⟨Nat.zero_le _, Nat.zero_le _⟩ (fun r_2 H locs hw hP hD hS => ?_)
  refine lv_istore (lv' := [(5, .int r_2), (4, .int (a1 &&& (15 : Int32))), (3, .int r_1), (0, .ref so), (1, .int a1), (2, .int a2)]) hx hb dL_acts_19 hl (by decide) rfl (fun ls hl => ?_)
  refine lv_iload_n hx hb dL_acts_21 rfl (lv_at hl 4 rfl) ?_
  refine lv_bipush (v := (8 : Int32)) hx hb dL_acts_22 (by decide) ?_
  refine lv_ishr hx hb dL_acts_24 ?_
  refine lv_iload_n hx hb dL_acts_25 rfl (lv_at hl 2 rfl) ?_
  refine zcallS0 (As := [.int (a1 >>> ((8 : Int32) &&& 31)), .int r_1]) (rest := []) ⟨hx, hb, hml, hown, hts⟩ (c_L_low l dC dI kI kA kC _ (a1 >>> ((8 : Int32) &&& 31)) r_1 _ hw) (va_cwS 2 hts gL_acts_L_low rfl rfl rfl (by decide +kernel) ⟨Nat.le_of_ble_eq_true rfl, Nat.le_of_ble_eq_true rfl⟩) hK hP hD hS hA rfl hl.1 rfl (Nat.le_of_ble_eq_true rfl) dL_acts_26 ⟨Nat.zero_le _, Nat.zero_le _⟩ (fun r_3 H locs hw hP hD hS => ?_)
  refine lv_istore (lv' := [(6, .int r_3), (5, .int r_2), (4, .int (a1 &&& (15 : Int32))), (3, .int r_1), (0, .ref so), (1, .int a1), (2, .int a2)]) hx hb dL_acts_29 hl (by decide) rfl (fun ls hl => ?_)
  refine lv_iload_n hx hb dL_acts_31 rfl (lv_at hl 6 rfl) ?_
  refine lv_bipush (v := (24 : Int32)) hx hb dL_acts_32 (by decide) ?_
  refine zcallS0 (As := [.int a2, .int (24 : Int32)]) (rest := []) ⟨hx, hb, hml, hown, hts⟩ (c_L_low l dC dI kI kA kC _ a2 (24 : Int32) _ hw) (va_cwS 2 hts gL_acts_L_low rfl rfl rfl (by decide +kernel) ⟨Nat.le_of_ble_eq_true rfl, Nat.le_of_ble_eq_true rfl⟩) hK hP hD hS hA rfl hl.1 rfl (Nat.le_of_ble_eq_true rfl) dL_acts_34 ⟨Nat.zero_le _, Nat.zero_le _⟩ (fun r_4 H locs hw hP hD hS => ?_)
  refine lv_istore (lv' := [(7, .int r_4), (6, .int r_3), (5, .int r_2), (4, .int (a1 &&& (15 : Int32))), (3, .int r_1), (0, .ref so), (1, .int a1), (2, .int a2)]) hx hb dL_acts_37 hl (by decide) rfl (fun ls hl => ?_)
  refine lv_iload hx hb dL_acts_39 (lv_at hl 0 rfl) ?_
  refine lv_iload_n hx hb dL_acts_41 rfl (lv_at hl 7 rfl) ?_
  refine lv_iconst (v := (5 : Int32)) hx hb dL_acts_42 (by decide) ?_
  refine lv_ishr hx hb dL_acts_43 ?_
  refine lv_bipush (v := (24 : Int32)) hx hb dL_acts_44 (by decide) ?_
  refine lv_iload hx hb dL_acts_46 (lv_at hl 0 rfl) ?_
  refine lv_isub hx hb dL_acts_48 ?_
  refine zcallS0 (As := [.int (a2 >>> ((5 : Int32) &&& 31)), .int ((24 : Int32) - r_4)]) (rest := [.int r_4]) ⟨hx, hb, hml, hown, hts⟩ (c_L_low l dC dI kI kA kC _ (a2 >>> ((5 : Int32) &&& 31)) ((24 : Int32) - r_4) _ hw) (va_cwS 2 hts gL_acts_L_low rfl rfl rfl (by decide +kernel) ⟨Nat.le_of_ble_eq_true rfl, Nat.le_of_ble_eq_true rfl⟩) hK hP hD hS hA rfl hl.1 rfl (Nat.le_of_ble_eq_true rfl) dL_acts_49 ⟨Nat.zero_le _, Nat.zero_le _⟩ (fun r_5 H locs hw hP hD hS => ?_)
  refine lv_iadd hx hb dL_acts_52 ?_
  refine lv_istore (lv' := [(8, .int (r_4 + r_5)), (7, .int r_4), (6, .int r_3), (5, .int r_2), (4, .int (a1 &&& (15 : Int32))), (3, .int r_1), (0, .ref so), (1, .int a1), (2, .int a2)]) hx hb dL_acts_53 hl (by decide) rfl (fun ls hl => ?_)
  refine lv_iload hx hb dL_acts_55 (lv_at hl 4 rfl) ?_
  refine lv_iconst (v := (3 : Int32)) hx hb dL_acts_57 (by decide) ?_
  refine lv_icmp_ge (tgt := 126) hx hb dL_acts_58 (by decide) (fun c_6 => ?_) (fun c_6 => ?_)
  · have hw := hw.1 c_6
    refine lv_iload hx hb dL_acts_126 (lv_at hl 4 rfl) ?_
    refine lv_iconst (v := (5 : Int32)) hx hb dL_acts_128 (by decide) ?_
    refine lv_icmp_ge (tgt := 206) hx hb dL_acts_129 (by decide) (fun c_7 => ?_) (fun c_7 => ?_)
    · have hw := hw.1 c_7
      refine lv_iload hx hb dL_acts_206 (lv_at hl 4 rfl) ?_
      refine lv_bipush (v := (7 : Int32)) hx hb dL_acts_208 (by decide) ?_
      refine lv_icmp_ge (tgt := 271) hx hb dL_acts_210 (by decide) (fun c_8 => ?_) (fun c_8 => ?_)
      · have hw := hw.1 c_8
        refine lv_iload hx hb dL_acts_271 (lv_at hl 4 rfl) ?_
        refine lv_bipush (v := (10 : Int32)) hx hb dL_acts_273 (by decide) ?_
        refine lv_icmp_ge (tgt := 425) hx hb dL_acts_275 (by decide) (fun c_9 => ?_) (fun c_9 => ?_)
        · have hw := hw.1 c_9
          refine lv_iload hx hb dL_acts_425 (lv_at hl 4 rfl) ?_
          refine lv_bipush (v := (10 : Int32)) hx hb dL_acts_427 (by decide) ?_
          refine lv_icmp_ne (tgt := 651) hx hb dL_acts_429 (by decide) (fun c_10 => ?_) (fun c_10 => ?_)
          · have hw := hw.1 c_10
            refine lv_iload hx hb dL_acts_651 (lv_at hl 4 rfl) ?_
            refine lv_bipush (v := (13 : Int32)) hx hb dL_acts_653 (by decide) ?_
            refine lv_icmp_ge (tgt := 730) hx hb dL_acts_655 (by decide) (fun c_11 => ?_) (fun c_11 => ?_)
            · have hw := hw.1 c_11
              refine lv_iload hx hb dL_acts_730 (lv_at hl 4 rfl) ?_
              refine lv_bipush (v := (13 : Int32)) hx hb dL_acts_732 (by decide) ?_
              refine lv_icmp_ne (tgt := 837) hx hb dL_acts_734 (by decide) (fun c_12 => ?_) (fun c_12 => ?_)
              · have hw := hw.1 c_12
                refine lv_iload hx hb dL_acts_837 (lv_at hl 4 rfl) ?_
                refine lv_bipush (v := (14 : Int32)) hx hb dL_acts_839 (by decide) ?_
                refine lv_icmp_ne (tgt := 883) hx hb dL_acts_841 (by decide) (fun c_13 => ?_) (fun c_13 => ?_)
                · have hw := hw.1 c_13
                  exact k_883 _ hJ478 r_1 r_2 sg hw _ ls _ _ hI (lv_sub hl [6, 5, 3] rfl) hP hD hS
                · have hw := hw.2 c_13
                  refine lv_iload_n hx hb dL_acts_844 rfl (lv_at hl 5 rfl) ?_
                  refine lv_iconst (v := (4 : Int32)) hx hb dL_acts_845 (by decide) ?_
                  refine lv_icmp_ge (tgt := 883) hx hb dL_acts_846 (by decide) (fun c_14 => ?_) (fun c_14 => ?_)
                  · have hw := hw.1 c_14
                    exact k_883 _ hJ478 r_1 r_2 sg hw _ ls _ _ hI (lv_sub hl [6, 5, 3] rfl) hP hD hS
                  · have hw := hw.2 c_14
                    refine lv_aload_n hx hb dL_acts_849 rfl (lv_at hl 6 rfl) ?_
                    refine k_addGuest ⟨hx, hb, hml, hown, hts⟩ (cwV 0 hts gL_acts_X6_addGuest rfl rfl rfl (by decide +kernel) ⟨Nat.le_of_ble_eq_true rfl, Nat.le_of_ble_eq_true rfl⟩) hK hI hP hD hS hA hl.1 (Nat.le_of_ble_eq_true rfl) dL_acts_850 ⟨Nat.zero_le _, Nat.zero_le _⟩ hw (fun r_15 sg_16 w H locs hw hI hP hD hS => ?_)
                    refine lv_iload_n hx hb dL_acts_853 rfl (lv_at hl 5 rfl) ?_
                    refine lv_icmp_ne (tgt := 881) hx hb dL_acts_854 (by decide) (fun c_17 => ?_) (fun c_17 => ?_)
                    · have hw := hw.1 c_17
                      refine lv_iconst (v := (0 : Int32)) hx hb dL_acts_881 (by decide) ?_
                      exact hret 882 (0 : Int32) (w, sg_16) _ _ _ (fun _ => rfl) ⟨hI, hw⟩ hP hD hS dL_acts_882
                    · have hw := hw.2 c_17
                      refine lv_aload_n hx hb dL_acts_857 rfl (lv_at hl 6 rfl) ?_
                      refine lv_iload_n hx hb dL_acts_858 rfl (lv_at hl 5 rfl) ?_
                      refine lv_iconst (v := (0 : Int32)) hx hb dL_acts_859 (by decide) ?_
                      refine k_guest ⟨hx, hb, hml, hown, hts⟩ (cwV 2 hts gL_acts_X6_guest rfl rfl rfl (by decide +kernel) ⟨Nat.le_of_ble_eq_true rfl, Nat.le_of_ble_eq_true rfl⟩) hK hI hP hD hS hA hl.1 (Nat.le_of_ble_eq_true rfl) dL_acts_860 ⟨Nat.zero_le _, Nat.zero_le _⟩ hw (fun r_18 w H locs hw hI hP hD hS => ?_)
                      refine lv_bipush (v := (24 : Int32)) hx hb dL_acts_863 (by decide) ?_
                      refine lv_icmp_ne (tgt := 881) hx hb dL_acts_865 (by decide) (fun c_19 => ?_) (fun c_19 => ?_)
                      · have hw := hw.1 c_19
                        refine lv_iconst (v := (0 : Int32)) hx hb dL_acts_881 (by decide) ?_
                        exact hret 882 (0 : Int32) (w, sg_16) _ _ _ (fun _ => rfl) ⟨hI, hw⟩ hP hD hS dL_acts_882
                      · have hw := hw.2 c_19
                        refine lv_aload_n hx hb dL_acts_868 rfl (lv_at hl 6 rfl) ?_
                        refine lv_iload_n hx hb dL_acts_869 rfl (lv_at hl 5 rfl) ?_
                        refine lv_iconst (v := (2 : Int32)) hx hb dL_acts_870 (by decide) ?_
                        refine k_guest ⟨hx, hb, hml, hown, hts⟩ (cwV 2 hts gL_acts_X6_guest rfl rfl rfl (by decide +kernel) ⟨Nat.le_of_ble_eq_true rfl, Nat.le_of_ble_eq_true rfl⟩) hK hI hP hD hS hA hl.1 (Nat.le_of_ble_eq_true rfl) dL_acts_871 ⟨Nat.zero_le _, Nat.zero_le _⟩ hw (fun r_20 w H locs hw hI hP hD hS => ?_)
                        refine lv_if_ne (tgt := 881) hx hb dL_acts_874 (by decide) (fun c_21 => ?_) (fun c_21 => ?_)
                        · have hw := hw.1 c_21
                          refine lv_iconst (v := (0 : Int32)) hx hb dL_acts_881 (by decide) ?_
                          exact hret 882 (0 : Int32) (w, sg_16) _ _ _ (fun _ => rfl) ⟨hI, hw⟩ hP hD hS dL_acts_882
                        · have hw := hw.2 c_21
                          refine lv_iconst (v := (1 : Int32)) hx hb dL_acts_877 (by decide) ?_
                          refine lv_goto (tgt := 882) hx hb dL_acts_878 (by decide) ?_
                          exact hret 882 (1 : Int32) (w, sg_16) _ _ _ (fun _ => rfl) ⟨hI, hw⟩ hP hD hS dL_acts_882
              · have hw := hw.2 c_12
                refine lv_aload_n hx hb dL_acts_737 rfl (lv_at hl 6 rfl) ?_
                refine lv_iconst (v := (0 : Int32)) hx hb dL_acts_738 (by decide) ?_
                refine k_ring ⟨hx, hb, hml, hown, hts⟩ (cwV 1 hts gL_acts_X6_ring rfl rfl rfl (by decide +kernel) ⟨Nat.le_of_ble_eq_true rfl, Nat.le_of_ble_eq_true rfl⟩) hK hI hP hD hS hA hl.1 (Nat.le_of_ble_eq_true rfl) dL_acts_739 ⟨Nat.zero_le _, Nat.zero_le _⟩ hw (fun r_22 w H locs hw hI hP hD hS => ?_)
                refine lv_istore (lv' := [(9, .int r_22), (8, .int (r_4 + r_5)), (7, .int r_4), (6, .int r_3), (5, .int r_2), (4, .int (a1 &&& (15 : Int32))), (3, .int r_1), (0, .ref so), (1, .int a1), (2, .int a2)]) hx hb dL_acts_742 hl (by decide) rfl (fun ls hl => ?_)
                refine lv_iload hx hb dL_acts_744 (lv_at hl 0 rfl) ?_
                refine lv_if_ge (tgt := 753) hx hb dL_acts_746 (by decide) (fun c_23 => ?_) (fun c_23 => ?_)
                · have hw := hw.1 c_23
                  refine lv_aload_n hx hb dL_acts_753 rfl (lv_at hl 7 rfl) ?_
                  refine lv_iload hx hb dL_acts_754 (lv_at hl 0 rfl) ?_
                  refine lv_iconst (v := (1 : Int32)) hx hb dL_acts_756 (by decide) ?_
                  refine k_guest ⟨hx, hb, hml, hown, hts⟩ (cwV 2 hts gL_acts_X6_guest rfl rfl rfl (by decide +kernel) ⟨Nat.le_of_ble_eq_true rfl, Nat.le_of_ble_eq_true rfl⟩) hK hI hP hD hS hA hl.1 (Nat.le_of_ble_eq_true rfl) dL_acts_757 ⟨Nat.zero_le _, Nat.zero_le _⟩ hw (fun r_24 w H locs hw hI hP hD hS => ?_)
                  exact k_760 _ hJ478 r_22 sg r_24 hw _ ls _ _ hI (lv_sub hl [7, 0] rfl) hP hD hS
                · have hw := hw.2 c_23
                  refine lv_iconst (v := (0 : Int32)) hx hb dL_acts_749 (by decide) ?_
                  refine lv_goto (tgt := 760) hx hb dL_acts_750 (by decide) ?_
                  exact k_760 _ hJ478 r_22 sg (0 : Int32) hw _ ls _ _ hI (lv_sub hl [7, 0] rfl) hP hD hS
            · have hw := hw.2 c_11
              refine lv_iload hx hb dL_acts_658 (lv_at hl 3 rfl) ?_
              refine lv_iload hx hb dL_acts_660 (lv_at hl 2 rfl) ?_
              refine lv_icmp_ne (tgt := 683) hx hb dL_acts_662 (by decide) (fun c_25 => ?_) (fun c_25 => ?_)
              · have hw := hw.1 c_25
                refine lv_aload_n hx hb dL_acts_683 rfl (lv_at hl 6 rfl) ?_
                refine lv_iconst (v := (1 : Int32)) hx hb dL_acts_684 (by decide) ?_
                refine k_count ⟨hx, hb, hml, hown, hts⟩ (cwV 1 hts gL_acts_X6_count rfl rfl rfl (by decide +kernel) ⟨Nat.le_of_ble_eq_true rfl, Nat.le_of_ble_eq_true rfl⟩) hK hI hP hD hS hA hl.1 (Nat.le_of_ble_eq_true rfl) dL_acts_685 ⟨Nat.zero_le _, Nat.zero_le _⟩ hw (fun r_26 w H locs hw hI hP hD hS => ?_)
                refine lv_istore (lv' := [(9, .int r_26), (8, .int (r_4 + r_5)), (7, .int r_4), (6, .int r_3), (5, .int r_2), (4, .int (a1 &&& (15 : Int32))), (3, .int r_1), (0, .ref so), (1, .int a1), (2, .int a2)]) hx hb dL_acts_688 hl (by decide) rfl (fun ls hl => ?_)
                refine lv_aload_n hx hb dL_acts_690 rfl (lv_at hl 7 rfl) ?_
                refine lv_iload hx hb dL_acts_691 (lv_at hl 4 rfl) ?_
                refine lv_iload hx hb dL_acts_693 (lv_at hl 3 rfl) ?_
                refine k_trim ⟨hx, hb, hml, hown, hts⟩ (cwV 2 hts gL_acts_X6_trim rfl rfl rfl (by decide +kernel) ⟨Nat.le_of_ble_eq_true rfl, Nat.le_of_ble_eq_true rfl⟩) hK hI hP hD hS hA hl.1 (Nat.le_of_ble_eq_true rfl) dL_acts_695 ⟨Nat.zero_le _, Nat.zero_le _⟩ hw (fun r_27 sg_28 w H locs hw hI hP hD hS => ?_)
                refine lv_istore (lv' := [(10, .int r_27), (9, .int r_26), (8, .int (r_4 + r_5)), (7, .int r_4), (6, .int r_3), (5, .int r_2), (4, .int (a1 &&& (15 : Int32))), (3, .int r_1), (0, .ref so), (1, .int a1), (2, .int a2)]) hx hb dL_acts_698 hl (by decide) rfl (fun ls hl => ?_)
                refine lv_aload_n hx hb dL_acts_700 rfl (lv_at hl 8 rfl) ?_
                refine lv_iconst (v := (1 : Int32)) hx hb dL_acts_701 (by decide) ?_
                refine k_count ⟨hx, hb, hml, hown, hts⟩ (cwV 1 hts gL_acts_X6_count rfl rfl rfl (by decide +kernel) ⟨Nat.le_of_ble_eq_true rfl, Nat.le_of_ble_eq_true rfl⟩) hK hI hP hD hS hA hl.1 (Nat.le_of_ble_eq_true rfl) dL_acts_702 ⟨Nat.zero_le _, Nat.zero_le _⟩ hw (fun r_29 w H locs hw hI hP hD hS => ?_)
                refine lv_iload hx hb dL_acts_705 (lv_at hl 1 rfl) ?_
                refine lv_iload hx hb dL_acts_707 (lv_at hl 0 rfl) ?_
                refine lv_iadd hx hb dL_acts_709 ?_
                refine lv_icmp_ne (tgt := 728) hx hb dL_acts_710 (by decide) (fun c_30 => ?_) (fun c_30 => ?_)
                · have hw := hw.1 c_30
                  refine lv_iconst (v := (0 : Int32)) hx hb dL_acts_728 (by decide) ?_
                  exact hret 729 (0 : Int32) (w, sg_28) _ _ _ (fun _ => rfl) ⟨hI, hw⟩ hP hD hS dL_acts_729
                · have hw := hw.2 c_30
                  refine lv_aload_n hx hb dL_acts_713 rfl (lv_at hl 8 rfl) ?_
                  refine lv_iload hx hb dL_acts_714 (lv_at hl 4 rfl) ?_
                  refine lv_iload hx hb dL_acts_716 (lv_at hl 5 rfl) ?_
                  refine k_envy ⟨hx, hb, hml, hown, hts⟩ (cwV 2 hts gL_acts_X6_envy rfl rfl rfl (by decide +kernel) ⟨Nat.le_of_ble_eq_true rfl, Nat.le_of_ble_eq_true rfl⟩) hK hI hP hD hS hA hl.1 (Nat.le_of_ble_eq_true rfl) dL_acts_718 ⟨Nat.zero_le _, Nat.zero_le _⟩ hw (fun r_31 w H locs hw hI hP hD hS => ?_)
                  refine lv_if_ne (tgt := 728) hx hb dL_acts_721 (by decide) (fun c_32 => ?_) (fun c_32 => ?_)
                  · have hw := hw.1 c_32
                    refine lv_iconst (v := (0 : Int32)) hx hb dL_acts_728 (by decide) ?_
                    exact hret 729 (0 : Int32) (w, sg_28) _ _ _ (fun _ => rfl) ⟨hI, hw⟩ hP hD hS dL_acts_729
                  · have hw := hw.2 c_32
                    refine lv_iconst (v := (1 : Int32)) hx hb dL_acts_724 (by decide) ?_
                    refine lv_goto (tgt := 729) hx hb dL_acts_725 (by decide) ?_
                    exact hret 729 (1 : Int32) (w, sg_28) _ _ _ (fun _ => rfl) ⟨hI, hw⟩ hP hD hS dL_acts_729
              · have hw := hw.2 c_25
                refine lv_aload_n hx hb dL_acts_665 rfl (lv_at hl 6 rfl) ?_
                refine lv_iload hx hb dL_acts_666 (lv_at hl 3 rfl) ?_
                refine lv_iload hx hb dL_acts_668 (lv_at hl 2 rfl) ?_
                refine k_trim ⟨hx, hb, hml, hown, hts⟩ (cwV 2 hts gL_acts_X6_trim rfl rfl rfl (by decide +kernel) ⟨Nat.le_of_ble_eq_true rfl, Nat.le_of_ble_eq_true rfl⟩) hK hI hP hD hS hA hl.1 (Nat.le_of_ble_eq_true rfl) dL_acts_670 ⟨Nat.zero_le _, Nat.zero_le _⟩ hw (fun r_33 sg_34 w H locs hw hI hP hD hS => ?_)
                refine lv_iconst (v := (-1 : Int32)) hx hb dL_acts_673 (by decide) ?_
                refine lv_icmp_ne (tgt := 681) hx hb dL_acts_674 (by decide) (fun c_35 => ?_) (fun c_35 => ?_)
                · have hw := hw.1 c_35
                  refine lv_iconst (v := (0 : Int32)) hx hb dL_acts_681 (by decide) ?_
                  exact hret 682 (0 : Int32) (w, sg_34) _ _ _ (fun _ => rfl) ⟨hI, hw⟩ hP hD hS dL_acts_682
                · have hw := hw.2 c_35
                  refine lv_iconst (v := (1 : Int32)) hx hb dL_acts_677 (by decide) ?_
                  refine lv_goto (tgt := 682) hx hb dL_acts_678 (by decide) ?_
                  exact hret 682 (1 : Int32) (w, sg_34) _ _ _ (fun _ => rfl) ⟨hI, hw⟩ hP hD hS dL_acts_682
          · have hw := hw.2 c_10
            refine lv_iload hx hb dL_acts_432 (lv_at hl 1 rfl) ?_
            refine lv_bipush (v := (23 : Int32)) hx hb dL_acts_434 (by decide) ?_
            refine lv_icmp_ge (tgt := 443) hx hb dL_acts_436 (by decide) (fun c_36 => ?_) (fun c_36 => ?_)
            · have hw := hw.1 c_36
              refine lv_iconst (v := (0 : Int32)) hx hb dL_acts_443 (by decide) ?_
              exact k_444 _ hJ478 r_2 r_3 r_4 (r_4 + r_5) sg (0 : Int32) hw _ ls _ _ hI (lv_sub hl [6, 3, 2, 1, 0] rfl) hP hD hS
            · have hw := hw.2 c_36
              refine lv_iconst (v := (1 : Int32)) hx hb dL_acts_439 (by decide) ?_
              refine lv_goto (tgt := 444) hx hb dL_acts_440 (by decide) ?_
              exact k_444 _ hJ478 r_2 r_3 r_4 (r_4 + r_5) sg (1 : Int32) hw _ ls _ _ hI (lv_sub hl [6, 3, 2, 1, 0] rfl) hP hD hS
        · have hw := hw.2 c_9
          refine lv_iconst (v := (1 : Int32)) hx hb dL_acts_278 (by decide) ?_
          refine lv_iload_n hx hb dL_acts_279 rfl (lv_at hl 8 rfl) ?_
          refine lv_bipush (v := (10 : Int32)) hx hb dL_acts_280 (by decide) ?_
          refine lv_ishr hx hb dL_acts_282 ?_
          refine lv_iconst (v := (1 : Int32)) hx hb dL_acts_283 (by decide) ?_
          refine lv_iload_n hx hb dL_acts_284 rfl (lv_at hl 5 rfl) ?_
          refine lv_ishl hx hb dL_acts_285 ?_
          refine lv_iconst (v := (1 : Int32)) hx hb dL_acts_286 (by decide) ?_
          refine lv_isub hx hb dL_acts_287 ?_
          refine zcallS0 (As := [.int (a2 >>> ((10 : Int32) &&& 31)), .int (((1 : Int32) <<< (r_1 &&& 31)) - (1 : Int32))]) (rest := [.int (1 : Int32)]) ⟨hx, hb, hml, hown, hts⟩ (c_L_low l dC dI kI kA kC _ (a2 >>> ((10 : Int32) &&& 31)) (((1 : Int32) <<< (r_1 &&& 31)) - (1 : Int32)) _ hw) (va_cwS 2 hts gL_acts_L_low rfl rfl rfl (by decide +kernel) ⟨Nat.le_of_ble_eq_true rfl, Nat.le_of_ble_eq_true rfl⟩) hK hP hD hS hA rfl hl.1 rfl (Nat.le_of_ble_eq_true rfl) dL_acts_288 ⟨Nat.zero_le _, Nat.zero_le _⟩ (fun r_37 H locs hw hP hD hS => ?_)
          refine lv_iadd hx hb dL_acts_291 ?_
          refine lv_istore (lv' := [(9, .int ((1 : Int32) + r_37)), (8, .int (r_4 + r_5)), (7, .int r_4), (6, .int r_3), (5, .int r_2), (4, .int (a1 &&& (15 : Int32))), (3, .int r_1), (0, .ref so), (1, .int a1), (2, .int a2)]) hx hb dL_acts_292 hl (by decide) rfl (fun ls hl => ?_)
          refine lv_iconst (v := (1 : Int32)) hx hb dL_acts_294 (by decide) ?_
          refine lv_iload_n hx hb dL_acts_295 rfl (lv_at hl 9 rfl) ?_
          refine lv_bipush (v := (15 : Int32)) hx hb dL_acts_296 (by decide) ?_
          refine lv_ishr hx hb dL_acts_298 ?_
          refine lv_bipush (v := (100 : Int32)) hx hb dL_acts_299 (by decide) ?_
          refine zcallS0 (As := [.int (a2 >>> ((15 : Int32) &&& 31)), .int (100 : Int32)]) (rest := [.int (1 : Int32)]) ⟨hx, hb, hml, hown, hts⟩ (c_L_low l dC dI kI kA kC _ (a2 >>> ((15 : Int32) &&& 31)) (100 : Int32) _ hw) (va_cwS 2 hts gL_acts_L_low rfl rfl rfl (by decide +kernel) ⟨Nat.le_of_ble_eq_true rfl, Nat.le_of_ble_eq_true rfl⟩) hK hP hD hS hA rfl hl.1 rfl (Nat.le_of_ble_eq_true rfl) dL_acts_301 ⟨Nat.zero_le _, Nat.zero_le _⟩ (fun r_38 H locs hw hP hD hS => ?_)
          refine lv_iadd hx hb dL_acts_304 ?_
          refine lv_istore (lv' := [(10, .int ((1 : Int32) + r_38)), (9, .int ((1 : Int32) + r_37)), (8, .int (r_4 + r_5)), (7, .int r_4), (6, .int r_3), (5, .int r_2), (4, .int (a1 &&& (15 : Int32))), (3, .int r_1), (0, .ref so), (1, .int a1), (2, .int a2)]) hx hb dL_acts_305 hl (by decide) rfl (fun ls hl => ?_)
          refine lv_aload_n hx hb dL_acts_307 rfl (lv_at hl 8 rfl) ?_
          refine lv_iload hx hb dL_acts_308 (lv_at hl 0 rfl) ?_
          refine lv_iload hx hb dL_acts_310 (lv_at hl 1 rfl) ?_
          refine k_calls ⟨hx, hb, hml, hown, hts⟩ (cwV 2 hts gL_acts_X6_calls rfl rfl rfl (by decide +kernel) ⟨Nat.le_of_ble_eq_true rfl, Nat.le_of_ble_eq_true rfl⟩) hK hI hP hD hS hA hl.1 (Nat.le_of_ble_eq_true rfl) dL_acts_312 ⟨Nat.zero_le _, Nat.zero_le _⟩ hw (fun r_39 w H locs hw hI hP hD hS => ?_)
          refine lv_istore (lv' := [(11, .int r_39), (10, .int ((1 : Int32) + r_38)), (9, .int ((1 : Int32) + r_37)), (8, .int (r_4 + r_5)), (7, .int r_4), (6, .int r_3), (5, .int r_2), (4, .int (a1 &&& (15 : Int32))), (3, .int r_1), (0, .ref so), (1, .int a1), (2, .int a2)]) hx hb dL_acts_315 hl (by decide) rfl (fun ls hl => ?_)
          refine lv_aload_n hx hb dL_acts_317 rfl (lv_at hl 9 rfl) ?_
          refine lv_iload hx hb dL_acts_318 (lv_at hl 6 rfl) ?_
          refine lv_iconst (v := (1 : Int32)) hx hb dL_acts_320 (by decide) ?_
          refine k_guest ⟨hx, hb, hml, hown, hts⟩ (cwV 2 hts gL_acts_X6_guest rfl rfl rfl (by decide +kernel) ⟨Nat.le_of_ble_eq_true rfl, Nat.le_of_ble_eq_true rfl⟩) hK hI hP hD hS hA hl.1 (Nat.le_of_ble_eq_true rfl) dL_acts_321 ⟨Nat.zero_le _, Nat.zero_le _⟩ hw (fun r_40 w H locs hw hI hP hD hS => ?_)
          refine lv_istore (lv' := [(12, .int r_40), (11, .int r_39), (10, .int ((1 : Int32) + r_38)), (9, .int ((1 : Int32) + r_37)), (8, .int (r_4 + r_5)), (7, .int r_4), (6, .int r_3), (5, .int r_2), (4, .int (a1 &&& (15 : Int32))), (3, .int r_1), (0, .ref so), (1, .int a1), (2, .int a2)]) hx hb dL_acts_324 hl (by decide) rfl (fun ls hl => ?_)
          refine lv_aload_n hx hb dL_acts_326 rfl (lv_at hl 10 rfl) ?_
          refine lv_iload hx hb dL_acts_327 (lv_at hl 7 rfl) ?_
          refine lv_iconst (v := (2 : Int32)) hx hb dL_acts_329 (by decide) ?_
          refine k_guest ⟨hx, hb, hml, hown, hts⟩ (cwV 2 hts gL_acts_X6_guest rfl rfl rfl (by decide +kernel) ⟨Nat.le_of_ble_eq_true rfl, Nat.le_of_ble_eq_true rfl⟩) hK hI hP hD hS hA hl.1 (Nat.le_of_ble_eq_true rfl) dL_acts_330 ⟨Nat.zero_le _, Nat.zero_le _⟩ hw (fun r_41 w H locs hw hI hP hD hS => ?_)
          refine lv_istore (lv' := [(13, .int r_41), (12, .int r_40), (11, .int r_39), (10, .int ((1 : Int32) + r_38)), (9, .int ((1 : Int32) + r_37)), (8, .int (r_4 + r_5)), (7, .int r_4), (6, .int r_3), (5, .int r_2), (4, .int (a1 &&& (15 : Int32))), (3, .int r_1), (0, .ref so), (1, .int a1), (2, .int a2)]) hx hb dL_acts_333 hl (by decide) rfl (fun ls hl => ?_)
          refine lv_aload_n hx hb dL_acts_335 rfl (lv_at hl 11 rfl) ?_
          refine lv_iload hx hb dL_acts_336 (lv_at hl 3 rfl) ?_
          refine lv_iload hx hb dL_acts_338 (lv_at hl 4 rfl) ?_
          refine k_move ⟨hx, hb, hml, hown, hts⟩ (cwV 2 hts gL_acts_X6_move rfl rfl rfl (by decide +kernel) ⟨Nat.le_of_ble_eq_true rfl, Nat.le_of_ble_eq_true rfl⟩) hK hI hP hD hS hA hl.1 (Nat.le_of_ble_eq_true rfl) dL_acts_340 ⟨Nat.zero_le _, Nat.zero_le _⟩ hw (fun r_42 sg_43 w H locs hw hI hP hD hS => ?_)
          refine lv_istore (lv' := [(14, .int r_42), (13, .int r_41), (12, .int r_40), (11, .int r_39), (10, .int ((1 : Int32) + r_38)), (9, .int ((1 : Int32) + r_37)), (8, .int (r_4 + r_5)), (7, .int r_4), (6, .int r_3), (5, .int r_2), (4, .int (a1 &&& (15 : Int32))), (3, .int r_1), (0, .ref so), (1, .int a1), (2, .int a2)]) hx hb dL_acts_343 hl (by decide) rfl (fun ls hl => ?_)
          refine lv_aload_n hx hb dL_acts_345 rfl (lv_at hl 12 rfl) ?_
          refine lv_iload hx hb dL_acts_346 (lv_at hl 9 rfl) ?_
          refine lv_iconst (v := (2 : Int32)) hx hb dL_acts_348 (by decide) ?_
          refine k_guest ⟨hx, hb, hml, hown, hts⟩ (cwV 2 hts gL_acts_X6_guest rfl rfl rfl (by decide +kernel) ⟨Nat.le_of_ble_eq_true rfl, Nat.le_of_ble_eq_true rfl⟩) hK hI hP hD hS hA hl.1 (Nat.le_of_ble_eq_true rfl) dL_acts_349 ⟨Nat.zero_le _, Nat.zero_le _⟩ hw (fun r_44 w H locs hw hI hP hD hS => ?_)
          refine lv_iload hx hb dL_acts_352 (lv_at hl 1 rfl) ?_
          refine lv_icmp_le (tgt := 361) hx hb dL_acts_354 (by decide) (fun c_45 => ?_) (fun c_45 => ?_)
          · have hw := hw.1 c_45
            refine lv_iconst (v := (0 : Int32)) hx hb dL_acts_361 (by decide) ?_
            exact k_362 _ hJ478 r_1 r_2 ((1 : Int32) + r_37) ((1 : Int32) + r_38) r_39 r_40 r_42 sg_43 (0 : Int32) hw _ ls _ _ hI (lv_sub hl [12, 11, 9, 5, 4, 3, 2, 0] rfl) hP hD hS
          · have hw := hw.2 c_45
            refine lv_iconst (v := (1 : Int32)) hx hb dL_acts_357 (by decide) ?_
            refine lv_goto (tgt := 362) hx hb dL_acts_358 (by decide) ?_
            exact k_362 _ hJ478 r_1 r_2 ((1 : Int32) + r_37) ((1 : Int32) + r_38) r_39 r_40 r_42 sg_43 (1 : Int32) hw _ ls _ _ hI (lv_sub hl [12, 11, 9, 5, 4, 3, 2, 0] rfl) hP hD hS
      · have hw := hw.2 c_8
        refine lv_aload_n hx hb dL_acts_213 rfl (lv_at hl 6 rfl) ?_
        refine lv_iconst (v := (1 : Int32)) hx hb dL_acts_214 (by decide) ?_
        refine k_count ⟨hx, hb, hml, hown, hts⟩ (cwV 1 hts gL_acts_X6_count rfl rfl rfl (by decide +kernel) ⟨Nat.le_of_ble_eq_true rfl, Nat.le_of_ble_eq_true rfl⟩) hK hI hP hD hS hA hl.1 (Nat.le_of_ble_eq_true rfl) dL_acts_215 ⟨Nat.zero_le _, Nat.zero_le _⟩ hw (fun r_46 w H locs hw hI hP hD hS => ?_)
        refine lv_istore (lv' := [(9, .int r_46), (8, .int (r_4 + r_5)), (7, .int r_4), (6, .int r_3), (5, .int r_2), (4, .int (a1 &&& (15 : Int32))), (3, .int r_1), (0, .ref so), (1, .int a1), (2, .int a2)]) hx hb dL_acts_218 hl (by decide) rfl (fun ls hl => ?_)
        refine lv_aload_n hx hb dL_acts_220 rfl (lv_at hl 7 rfl) ?_
        refine lv_iload hx hb dL_acts_221 (lv_at hl 2 rfl) ?_
        refine lv_iload hx hb dL_acts_223 (lv_at hl 1 rfl) ?_
        refine k_putBack ⟨hx, hb, hml, hown, hts⟩ (cwV 2 hts gL_acts_X6_putBack rfl rfl rfl (by decide +kernel) ⟨Nat.le_of_ble_eq_true rfl, Nat.le_of_ble_eq_true rfl⟩) hK hI hP hD hS hA hl.1 (Nat.le_of_ble_eq_true rfl) dL_acts_225 ⟨Nat.zero_le _, Nat.zero_le _⟩ hw (fun r_47 sg_48 w H locs hw hI hP hD hS => ?_)
        refine lv_istore (lv' := [(10, .int r_47), (9, .int r_46), (8, .int (r_4 + r_5)), (7, .int r_4), (6, .int r_3), (5, .int r_2), (4, .int (a1 &&& (15 : Int32))), (3, .int r_1), (0, .ref so), (1, .int a1), (2, .int a2)]) hx hb dL_acts_228 hl (by decide) rfl (fun ls hl => ?_)
        refine lv_aload_n hx hb dL_acts_230 rfl (lv_at hl 8 rfl) ?_
        refine lv_iconst (v := (1 : Int32)) hx hb dL_acts_231 (by decide) ?_
        refine k_count ⟨hx, hb, hml, hown, hts⟩ (cwV 1 hts gL_acts_X6_count rfl rfl rfl (by decide +kernel) ⟨Nat.le_of_ble_eq_true rfl, Nat.le_of_ble_eq_true rfl⟩) hK hI hP hD hS hA hl.1 (Nat.le_of_ble_eq_true rfl) dL_acts_232 ⟨Nat.zero_le _, Nat.zero_le _⟩ hw (fun r_49 w H locs hw hI hP hD hS => ?_)
        refine lv_iload hx hb dL_acts_235 (lv_at hl 1 rfl) ?_
        refine lv_iload hx hb dL_acts_237 (lv_at hl 0 rfl) ?_
        refine lv_iadd hx hb dL_acts_239 ?_
        refine lv_icmp_ne (tgt := 269) hx hb dL_acts_240 (by decide) (fun c_50 => ?_) (fun c_50 => ?_)
        · have hw := hw.1 c_50
          refine lv_iconst (v := (0 : Int32)) hx hb dL_acts_269 (by decide) ?_
          exact hret 270 (0 : Int32) (w, sg_48) _ _ _ (fun _ => rfl) ⟨hI, hw⟩ hP hD hS dL_acts_270
        · have hw := hw.2 c_50
          refine lv_aload_n hx hb dL_acts_243 rfl (lv_at hl 8 rfl) ?_
          refine lv_iload hx hb dL_acts_244 (lv_at hl 3 rfl) ?_
          refine k_crumb ⟨hx, hb, hml, hown, hts⟩ (cwV 1 hts gL_acts_X6_crumb rfl rfl rfl (by decide +kernel) ⟨Nat.le_of_ble_eq_true rfl, Nat.le_of_ble_eq_true rfl⟩) hK hI hP hD hS hA hl.1 (Nat.le_of_ble_eq_true rfl) dL_acts_246 ⟨Nat.zero_le _, Nat.zero_le _⟩ hw (fun r_51 w H locs hw hI hP hD hS => ?_)
          refine lv_bipush (v := (-9 : Int32)) hx hb dL_acts_249 (by decide) ?_
          refine lv_icmp_ne (tgt := 269) hx hb dL_acts_251 (by decide) (fun c_52 => ?_) (fun c_52 => ?_)
          · have hw := hw.1 c_52
            refine lv_iconst (v := (0 : Int32)) hx hb dL_acts_269 (by decide) ?_
            exact hret 270 (0 : Int32) (w, sg_48) _ _ _ (fun _ => rfl) ⟨hI, hw⟩ hP hD hS dL_acts_270
          · have hw := hw.2 c_52
            refine lv_aload_n hx hb dL_acts_254 rfl (lv_at hl 8 rfl) ?_
            refine lv_iload hx hb dL_acts_255 (lv_at hl 2 rfl) ?_
            refine k_crumb ⟨hx, hb, hml, hown, hts⟩ (cwV 1 hts gL_acts_X6_crumb rfl rfl rfl (by decide +kernel) ⟨Nat.le_of_ble_eq_true rfl, Nat.le_of_ble_eq_true rfl⟩) hK hI hP hD hS hA hl.1 (Nat.le_of_ble_eq_true rfl) dL_acts_257 ⟨Nat.zero_le _, Nat.zero_le _⟩ hw (fun r_53 w H locs hw hI hP hD hS => ?_)
            refine lv_bipush (v := (-9 : Int32)) hx hb dL_acts_260 (by decide) ?_
            refine lv_icmp_ne (tgt := 269) hx hb dL_acts_262 (by decide) (fun c_54 => ?_) (fun c_54 => ?_)
            · have hw := hw.1 c_54
              refine lv_iconst (v := (0 : Int32)) hx hb dL_acts_269 (by decide) ?_
              exact hret 270 (0 : Int32) (w, sg_48) _ _ _ (fun _ => rfl) ⟨hI, hw⟩ hP hD hS dL_acts_270
            · have hw := hw.2 c_54
              refine lv_iconst (v := (1 : Int32)) hx hb dL_acts_265 (by decide) ?_
              refine lv_goto (tgt := 270) hx hb dL_acts_266 (by decide) ?_
              exact hret 270 (1 : Int32) (w, sg_48) _ _ _ (fun _ => rfl) ⟨hI, hw⟩ hP hD hS dL_acts_270
    · have hw := hw.2 c_7
      refine lv_aload_n hx hb dL_acts_132 rfl (lv_at hl 6 rfl) ?_
      refine lv_iconst (v := (1 : Int32)) hx hb dL_acts_133 (by decide) ?_
      refine k_count ⟨hx, hb, hml, hown, hts⟩ (cwV 1 hts gL_acts_X6_count rfl rfl rfl (by decide +kernel) ⟨Nat.le_of_ble_eq_true rfl, Nat.le_of_ble_eq_true rfl⟩) hK hI hP hD hS hA hl.1 (Nat.le_of_ble_eq_true rfl) dL_acts_134 ⟨Nat.zero_le _, Nat.zero_le _⟩ hw (fun r_55 w H locs hw hI hP hD hS => ?_)
      refine lv_istore (lv' := [(9, .int r_55), (8, .int (r_4 + r_5)), (7, .int r_4), (6, .int r_3), (5, .int r_2), (4, .int (a1 &&& (15 : Int32))), (3, .int r_1), (0, .ref so), (1, .int a1), (2, .int a2)]) hx hb dL_acts_137 hl (by decide) rfl (fun ls hl => ?_)
      refine lv_aload_n hx hb dL_acts_139 rfl (lv_at hl 7 rfl) ?_
      refine lv_iload hx hb dL_acts_140 (lv_at hl 4 rfl) ?_
      refine lv_iconst (v := (2 : Int32)) hx hb dL_acts_142 (by decide) ?_
      refine k_guest ⟨hx, hb, hml, hown, hts⟩ (cwV 2 hts gL_acts_X6_guest rfl rfl rfl (by decide +kernel) ⟨Nat.le_of_ble_eq_true rfl, Nat.le_of_ble_eq_true rfl⟩) hK hI hP hD hS hA hl.1 (Nat.le_of_ble_eq_true rfl) dL_acts_143 ⟨Nat.zero_le _, Nat.zero_le _⟩ hw (fun r_56 w H locs hw hI hP hD hS => ?_)
      refine lv_istore (lv' := [(10, .int r_56), (9, .int r_55), (8, .int (r_4 + r_5)), (7, .int r_4), (6, .int r_3), (5, .int r_2), (4, .int (a1 &&& (15 : Int32))), (3, .int r_1), (0, .ref so), (1, .int a1), (2, .int a2)]) hx hb dL_acts_146 hl (by decide) rfl (fun ls hl => ?_)
      refine lv_aload_n hx hb dL_acts_148 rfl (lv_at hl 8 rfl) ?_
      refine lv_iload hx hb dL_acts_149 (lv_at hl 5 rfl) ?_
      refine lv_iload hx hb dL_acts_151 (lv_at hl 3 rfl) ?_
      refine lv_iload hx hb dL_acts_153 (lv_at hl 2 rfl) ?_
      refine k_give ⟨hx, hb, hml, hown, hts⟩ (cwV 3 hts gL_acts_X6_give rfl rfl rfl (by decide +kernel) ⟨Nat.le_of_ble_eq_true rfl, Nat.le_of_ble_eq_true rfl⟩) hK hI hP hD hS hA hl.1 (Nat.le_of_ble_eq_true rfl) dL_acts_155 ⟨Nat.zero_le _, Nat.zero_le _⟩ hw (fun r_57 sg_58 w H locs hw hI hP hD hS => ?_)
      refine lv_istore (lv' := [(11, .int r_57), (10, .int r_56), (9, .int r_55), (8, .int (r_4 + r_5)), (7, .int r_4), (6, .int r_3), (5, .int r_2), (4, .int (a1 &&& (15 : Int32))), (3, .int r_1), (0, .ref so), (1, .int a1), (2, .int a2)]) hx hb dL_acts_158 hl (by decide) rfl (fun ls hl => ?_)
      refine lv_aload_n hx hb dL_acts_160 rfl (lv_at hl 9 rfl) ?_
      refine lv_iconst (v := (1 : Int32)) hx hb dL_acts_161 (by decide) ?_
      refine k_count ⟨hx, hb, hml, hown, hts⟩ (cwV 1 hts gL_acts_X6_count rfl rfl rfl (by decide +kernel) ⟨Nat.le_of_ble_eq_true rfl, Nat.le_of_ble_eq_true rfl⟩) hK hI hP hD hS hA hl.1 (Nat.le_of_ble_eq_true rfl) dL_acts_162 ⟨Nat.zero_le _, Nat.zero_le _⟩ hw (fun r_59 w H locs hw hI hP hD hS => ?_)
      refine lv_iload hx hb dL_acts_165 (lv_at hl 2 rfl) ?_
      refine lv_iload hx hb dL_acts_167 (lv_at hl 0 rfl) ?_
      refine lv_isub hx hb dL_acts_169 ?_
      refine lv_icmp_ne (tgt := 204) hx hb dL_acts_170 (by decide) (fun c_60 => ?_) (fun c_60 => ?_)
      · have hw := hw.1 c_60
        refine lv_iconst (v := (0 : Int32)) hx hb dL_acts_204 (by decide) ?_
        exact hret 205 (0 : Int32) (w, sg_58) _ _ _ (fun _ => rfl) ⟨hI, hw⟩ hP hD hS dL_acts_205
      · have hw := hw.2 c_60
        refine lv_aload_n hx hb dL_acts_173 rfl (lv_at hl 9 rfl) ?_
        refine lv_iload hx hb dL_acts_174 (lv_at hl 6 rfl) ?_
        refine lv_iconst (v := (2 : Int32)) hx hb dL_acts_176 (by decide) ?_
        refine k_guest ⟨hx, hb, hml, hown, hts⟩ (cwV 2 hts gL_acts_X6_guest rfl rfl rfl (by decide +kernel) ⟨Nat.le_of_ble_eq_true rfl, Nat.le_of_ble_eq_true rfl⟩) hK hI hP hD hS hA hl.1 (Nat.le_of_ble_eq_true rfl) dL_acts_177 ⟨Nat.zero_le _, Nat.zero_le _⟩ hw (fun r_61 w H locs hw hI hP hD hS => ?_)
        refine lv_iload hx hb dL_acts_180 (lv_at hl 1 rfl) ?_
        refine lv_iload hx hb dL_acts_182 (lv_at hl 0 rfl) ?_
        refine lv_iadd hx hb dL_acts_184 ?_
        refine lv_icmp_ne (tgt := 204) hx hb dL_acts_185 (by decide) (fun c_62 => ?_) (fun c_62 => ?_)
        · have hw := hw.1 c_62
          refine lv_iconst (v := (0 : Int32)) hx hb dL_acts_204 (by decide) ?_
          exact hret 205 (0 : Int32) (w, sg_58) _ _ _ (fun _ => rfl) ⟨hI, hw⟩ hP hD hS dL_acts_205
        · have hw := hw.2 c_62
          refine lv_iload hx hb dL_acts_188 (lv_at hl 0 rfl) ?_
          refine lv_iload hx hb dL_acts_190 (lv_at hl 3 rfl) ?_
          refine lv_iload hx hb dL_acts_192 (lv_at hl 4 rfl) ?_
          refine lv_isub hx hb dL_acts_194 ?_
          refine lv_iconst (v := (1 : Int32)) hx hb dL_acts_195 (by decide) ?_
          refine lv_iadd hx hb dL_acts_196 ?_
          refine lv_icmp_gt (tgt := 204) hx hb dL_acts_197 (by decide) (fun c_63 => ?_) (fun c_63 => ?_)
          · have hw := hw.1 c_63
            refine lv_iconst (v := (0 : Int32)) hx hb dL_acts_204 (by decide) ?_
            exact hret 205 (0 : Int32) (w, sg_58) _ _ _ (fun _ => rfl) ⟨hI, hw⟩ hP hD hS dL_acts_205
          · have hw := hw.2 c_63
            refine lv_iconst (v := (1 : Int32)) hx hb dL_acts_200 (by decide) ?_
            refine lv_goto (tgt := 205) hx hb dL_acts_201 (by decide) ?_
            exact hret 205 (1 : Int32) (w, sg_58) _ _ _ (fun _ => rfl) ⟨hI, hw⟩ hP hD hS dL_acts_205
  · have hw := hw.2 c_6
    refine lv_iload_n hx hb dL_acts_61 rfl (lv_at hl 8 rfl) ?_
    refine lv_bipush (v := (10 : Int32)) hx hb dL_acts_62 (by decide) ?_
    refine lv_ishr hx hb dL_acts_64 ?_
    refine lv_bipush (v := (10 : Int32)) hx hb dL_acts_65 (by decide) ?_
    refine zcallS0 (As := [.int (a2 >>> ((10 : Int32) &&& 31)), .int (10 : Int32)]) (rest := []) ⟨hx, hb, hml, hown, hts⟩ (c_L_low l dC dI kI kA kC _ (a2 >>> ((10 : Int32) &&& 31)) (10 : Int32) _ hw) (va_cwS 2 hts gL_acts_L_low rfl rfl rfl (by decide +kernel) ⟨Nat.le_of_ble_eq_true rfl, Nat.le_of_ble_eq_true rfl⟩) hK hP hD hS hA rfl hl.1 rfl (Nat.le_of_ble_eq_true rfl) dL_acts_67 ⟨Nat.zero_le _, Nat.zero_le _⟩ (fun r_64 H locs hw hP hD hS => ?_)
    refine lv_istore (lv' := [(9, .int r_64), (8, .int (r_4 + r_5)), (7, .int r_4), (6, .int r_3), (5, .int r_2), (4, .int (a1 &&& (15 : Int32))), (3, .int r_1), (0, .ref so), (1, .int a1), (2, .int a2)]) hx hb dL_acts_70 hl (by decide) rfl (fun ls hl => ?_)
    refine lv_aload_n hx hb dL_acts_72 rfl (lv_at hl 7 rfl) ?_
    refine lv_iload hx hb dL_acts_73 (lv_at hl 4 rfl) ?_
    refine lv_iload hx hb dL_acts_75 (lv_at hl 2 rfl) ?_
    refine lv_iload hx hb dL_acts_77 (lv_at hl 1 rfl) ?_
    refine lv_iload hx hb dL_acts_79 (lv_at hl 0 rfl) ?_
    refine k_setValue ⟨hx, hb, hml, hown, hts⟩ (cwV 4 hts gL_acts_X6_setValue rfl rfl rfl (by decide +kernel) ⟨Nat.le_of_ble_eq_true rfl, Nat.le_of_ble_eq_true rfl⟩) hK hI hP hD hS hA hl.1 (Nat.le_of_ble_eq_true rfl) dL_acts_81 ⟨Nat.zero_le _, Nat.zero_le _⟩ hw (fun r_65 sg_66 w H locs hw hI hP hD hS => ?_)
    refine lv_aload_n hx hb dL_acts_84 rfl (lv_at hl 7 rfl) ?_
    refine lv_iload hx hb dL_acts_85 (lv_at hl 4 rfl) ?_
    refine lv_iconst (v := (0 : Int32)) hx hb dL_acts_87 (by decide) ?_
    refine k_guest ⟨hx, hb, hml, hown, hts⟩ (cwV 2 hts gL_acts_X6_guest rfl rfl rfl (by decide +kernel) ⟨Nat.le_of_ble_eq_true rfl, Nat.le_of_ble_eq_true rfl⟩) hK hI hP hD hS hA hl.1 (Nat.le_of_ble_eq_true rfl) dL_acts_88 ⟨Nat.zero_le _, Nat.zero_le _⟩ hw (fun r_67 w H locs hw hI hP hD hS => ?_)
    refine lv_icmp_ne (tgt := 124) hx hb dL_acts_91 (by decide) (fun c_68 => ?_) (fun c_68 => ?_)
    · have hw := hw.1 c_68
      refine lv_iconst (v := (0 : Int32)) hx hb dL_acts_124 (by decide) ?_
      exact hret 125 (0 : Int32) (w, sg_66) _ _ _ (fun _ => rfl) ⟨hI, hw⟩ hP hD hS dL_acts_125
    · have hw := hw.2 c_68
      refine lv_aload_n hx hb dL_acts_94 rfl (lv_at hl 7 rfl) ?_
      refine lv_iload hx hb dL_acts_95 (lv_at hl 4 rfl) ?_
      refine lv_iload hx hb dL_acts_97 (lv_at hl 2 rfl) ?_
      refine k_value ⟨hx, hb, hml, hown, hts⟩ (cwV 2 hts gL_acts_X6_value rfl rfl rfl (by decide +kernel) ⟨Nat.le_of_ble_eq_true rfl, Nat.le_of_ble_eq_true rfl⟩) hK hI hP hD hS hA hl.1 (Nat.le_of_ble_eq_true rfl) dL_acts_99 ⟨Nat.zero_le _, Nat.zero_le _⟩ hw (fun r_69 w H locs hw hI hP hD hS => ?_)
      refine lv_iload hx hb dL_acts_102 (lv_at hl 0 rfl) ?_
      refine lv_icmp_ne (tgt := 124) hx hb dL_acts_104 (by decide) (fun c_70 => ?_) (fun c_70 => ?_)
      · have hw := hw.1 c_70
        refine lv_iconst (v := (0 : Int32)) hx hb dL_acts_124 (by decide) ?_
        exact hret 125 (0 : Int32) (w, sg_66) _ _ _ (fun _ => rfl) ⟨hI, hw⟩ hP hD hS dL_acts_125
      · have hw := hw.2 c_70
        refine lv_aload_n hx hb dL_acts_107 rfl (lv_at hl 7 rfl) ?_
        refine lv_iload hx hb dL_acts_108 (lv_at hl 4 rfl) ?_
        refine lv_iload hx hb dL_acts_110 (lv_at hl 1 rfl) ?_
        refine k_value ⟨hx, hb, hml, hown, hts⟩ (cwV 2 hts gL_acts_X6_value rfl rfl rfl (by decide +kernel) ⟨Nat.le_of_ble_eq_true rfl, Nat.le_of_ble_eq_true rfl⟩) hK hI hP hD hS hA hl.1 (Nat.le_of_ble_eq_true rfl) dL_acts_112 ⟨Nat.zero_le _, Nat.zero_le _⟩ hw (fun r_71 w H locs hw hI hP hD hS => ?_)
        refine lv_iload hx hb dL_acts_115 (lv_at hl 0 rfl) ?_
        refine lv_icmp_ne (tgt := 124) hx hb dL_acts_117 (by decide) (fun c_72 => ?_) (fun c_72 => ?_)
        · have hw := hw.1 c_72
          refine lv_iconst (v := (0 : Int32)) hx hb dL_acts_124 (by decide) ?_
          exact hret 125 (0 : Int32) (w, sg_66) _ _ _ (fun _ => rfl) ⟨hI, hw⟩ hP hD hS dL_acts_125
        · have hw := hw.2 c_72
          refine lv_iconst (v := (1 : Int32)) hx hb dL_acts_120 (by decide) ?_
          refine lv_goto (tgt := 125) hx hb dL_acts_121 (by decide) ?_
          exact hret 125 (1 : Int32) (w, sg_66) _ _ _ (fun _ => rfl) ⟨hI, hw⟩ hP hD hS dL_acts_125
