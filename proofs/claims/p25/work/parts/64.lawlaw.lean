-- law.L_law
def K_L_law_416 (Z : Int32 → Prop) (J101 : Int32 → Int32 → Sg → Prop) (J119 : Int32 → Int32 → Int32 → Sg → Prop) (J188 : Int32 → Sg → Prop) (x3 : Int64) (sg : Sg) (t0 : Int32) : Prop := ((t0 = (0 : Int32) → (Z (0 : Int32))) ∧ (¬ t0 = (0 : Int32) → (Wp_L_told sg (fun r_86 => ((¬ (lg_cmp r_86 x3) = (0 : Int32) → (Z (0 : Int32))) ∧ ((lg_cmp r_86 x3) = (0 : Int32) → (Z (1 : Int32))))))))
def K_L_law_271 (Z : Int32 → Prop) (J101 : Int32 → Int32 → Sg → Prop) (J119 : Int32 → Int32 → Int32 → Sg → Prop) (J188 : Int32 → Sg → Prop) (x3 : Int32) (x4 : Int64) (sg : Sg) : Prop := ((¬ (x3 - x3 / (3 : Int32) * (3 : Int32)) = (0 : Int32) → (J188 (x3 + (1 : Int32)) sg)) ∧ ((x3 - x3 / (3 : Int32) * (3 : Int32)) = (0 : Int32) → (Wp_L_told sg (fun r_78 => (((lg_cmp r_78 x4) = (0 : Int32) → (J188 (x3 + (1 : Int32)) sg)) ∧ (¬ (lg_cmp r_78 x4) = (0 : Int32) → (Wq_undo sg (fun r_80 sg_81 => ((r_80 < (0 : Int32) → (Z (0 : Int32))) ∧ (¬ r_80 < (0 : Int32) → (Wp_L_told sg_81 (fun r_83 => (((lg_cmp r_83 x4) = (0 : Int32) → (J188 (x3 + (1 : Int32)) sg_81)) ∧ (¬ (lg_cmp r_83 x4) = (0 : Int32) → (Z (0 : Int32))))))))))))))))
def B_L_law_101 (Z : Int32 → Prop) (J101 : Int32 → Int32 → Sg → Prop) (J119 : Int32 → Int32 → Int32 → Sg → Prop) (J188 : Int32 → Sg → Prop) (x2 : Int32) (x3 : Int32) (sg : Sg) : Prop := ((x2 ≤ x3 → (J188 (0 : Int32) sg)) ∧ (¬ x2 ≤ x3 → (Wq_addGuest sg (fun r_23 sg_24 => ((r_23 = x3 → (J119 x2 x3 (0 : Int32) sg_24)) ∧ (¬ r_23 = x3 → (Z (0 : Int32))))))))
def B_L_law_119 (Z : Int32 → Prop) (J101 : Int32 → Int32 → Sg → Prop) (J119 : Int32 → Int32 → Int32 → Sg → Prop) (J188 : Int32 → Sg → Prop) (x2 : Int32) (x3 : Int32) (x4 : Int32) (sg : Sg) : Prop := (((4 : Int32) ≤ x4 → (J101 x2 (x3 + (1 : Int32)) sg)) ∧ (¬ (4 : Int32) ≤ x4 → (¬ (((1 : Int32) + ((4 : Int32) * x3)) + x4) < (0 : Int32) ∧ (∀ r_27 : Int32, (Wp_L_low r_27 (12 : Int32) (fun r_29 => (Wp_L_low (r_27 >>> ((4 : Int32) &&& 31)) (12 : Int32) (fun r_30 => (Wp_L_low (r_27 >>> ((8 : Int32) &&& 31)) (10 : Int32) (fun r_31 => (Wq_setValue sg x3 r_29 ((12 : Int32) + r_30) r_31 (fun r_32 sg_33 => (J119 x2 x3 (x4 + (1 : Int32)) sg_33)))))))))))))
def B_L_law_188 (Z : Int32 → Prop) (J101 : Int32 → Int32 → Sg → Prop) (J119 : Int32 → Int32 → Int32 → Sg → Prop) (J188 : Int32 → Sg → Prop) (x3 : Int32) (sg : Sg) : Prop := (((36 : Int32) ≤ x3 → (Wp_L_told sg (fun r_35 => (Wq_setValue sg (0 : Int32) (5 : Int32) (4 : Int32) (1 : Int32) (fun r_36 sg_37 => ((¬ r_36 = (-1 : Int32) → (K_L_law_416 Z J101 J119 J188 r_35 sg_37 (0 : Int32))) ∧ (r_36 = (-1 : Int32) → (Wq_give sg_37 (4 : Int32) (0 : Int32) (0 : Int32) (fun r_39 sg_40 => ((¬ r_39 = (-1 : Int32) → (K_L_law_416 Z J101 J119 J188 r_35 sg_40 (0 : Int32))) ∧ (r_39 = (-1 : Int32) → (Wq_putBack sg_40 (0 : Int32) (24 : Int32) (fun r_42 sg_43 => ((¬ r_42 = (-1 : Int32) → (K_L_law_416 Z J101 J119 J188 r_35 sg_43 (0 : Int32))) ∧ (r_42 = (-1 : Int32) → (Wq_move sg_43 (101 : Int32) (1 : Int32) (fun r_45 sg_46 => ((¬ r_45 = (-1 : Int32) → (K_L_law_416 Z J101 J119 J188 r_35 sg_46 (0 : Int32))) ∧ (r_45 = (-1 : Int32) → (Wq_move sg_46 (5 : Int32) (0 : Int32) (fun r_48 sg_49 => ((¬ r_48 = (-1 : Int32) → (K_L_law_416 Z J101 J119 J188 r_35 sg_49 (0 : Int32))) ∧ (r_48 = (-1 : Int32) → (Wq_trim sg_49 (0 : Int32) (0 : Int32) (fun r_51 sg_52 => ((¬ r_51 = (-1 : Int32) → (K_L_law_416 Z J101 J119 J188 r_35 sg_52 (0 : Int32))) ∧ (r_51 = (-1 : Int32) → (Wq_best sg_52 (6 : Int32) (fun r_54 => ((¬ r_54 = (-1 : Int32) → (K_L_law_416 Z J101 J119 J188 r_35 sg_52 (0 : Int32))) ∧ (r_54 = (-1 : Int32) → (Wq_crumb sg_52 (24 : Int32) (fun r_56 => ((¬ r_56 = (-1 : Int32) → (K_L_law_416 Z J101 J119 J188 r_35 sg_52 (0 : Int32))) ∧ (r_56 = (-1 : Int32) → (Wq_read sg_52 (4 : Int32) (fun r_58 sg_59 => ((¬ r_58 = (-1 : Int32) → (K_L_law_416 Z J101 J119 J188 r_35 sg_59 (0 : Int32))) ∧ (r_58 = (-1 : Int32) → (K_L_law_416 Z J101 J119 J188 r_35 sg_59 (1 : Int32))))))))))))))))))))))))))))))))))))))))) ∧ (¬ (36 : Int32) ≤ x3 → (Wp_L_told sg (fun r_61 => (Wq_count sg (6 : Int32) (fun r_62 => (¬ ((17 : Int32) + ((2 : Int32) * x3)) < (0 : Int32) ∧ (∀ r_63 : Int32, (¬ ((18 : Int32) + ((2 : Int32) * x3)) < (0 : Int32) ∧ (∀ r_65 : Int32, (Wp_L_acts sg r_63 r_65 (fun r_67 sg_68 => ((r_67 = (0 : Int32) → (Z (0 : Int32))) ∧ (¬ r_67 = (0 : Int32) → (Wp_L_rules sg_68 (fun r_70 => ((r_70 = (0 : Int32) → (Z (0 : Int32))) ∧ (¬ r_70 = (0 : Int32) → (Wq_count sg_68 (6 : Int32) (fun r_72 => ((¬ r_72 = r_62 → (K_L_law_271 Z J101 J119 J188 x3 r_61 sg_68)) ∧ (r_72 = r_62 → (((5 : Int32) ≤ r_62 → (K_L_law_271 Z J101 J119 J188 x3 r_61 sg_68)) ∧ (¬ (5 : Int32) ≤ r_62 → (Wp_L_told sg_68 (fun r_75 => (((lg_cmp r_75 r_61) = (0 : Int32) → (K_L_law_271 Z J101 J119 J188 x3 r_61 sg_68)) ∧ (¬ (lg_cmp r_75 r_61) = (0 : Int32) → (Z (0 : Int32))))))))))))))))))))))))))))))
def Wp_L_law_101 (Z : Int32 → Prop) (x2 : Int32) (x3 : Int32) (sg : Sg) : Prop := ∀ (I101 : Int32 → Int32 → Sg → Prop) (I119 : Int32 → Int32 → Int32 → Sg → Prop) (I188 : Int32 → Sg → Prop), (∀ (J101 : Int32 → Int32 → Sg → Prop) (J119 : Int32 → Int32 → Int32 → Sg → Prop) (J188 : Int32 → Sg → Prop), (∀ (x2 : Int32) (x3 : Int32) (sg : Sg), J101 x2 x3 sg → I101 x2 x3 sg) → (∀ (x2 : Int32) (x3 : Int32) (x4 : Int32) (sg : Sg), J119 x2 x3 x4 sg → I119 x2 x3 x4 sg) → (∀ (x3 : Int32) (sg : Sg), J188 x3 sg → I188 x3 sg) → ∀ (x2 : Int32) (x3 : Int32) (sg : Sg), B_L_law_101 Z J101 J119 J188 x2 x3 sg → I101 x2 x3 sg) → (∀ (J101 : Int32 → Int32 → Sg → Prop) (J119 : Int32 → Int32 → Int32 → Sg → Prop) (J188 : Int32 → Sg → Prop), (∀ (x2 : Int32) (x3 : Int32) (sg : Sg), J101 x2 x3 sg → I101 x2 x3 sg) → (∀ (x2 : Int32) (x3 : Int32) (x4 : Int32) (sg : Sg), J119 x2 x3 x4 sg → I119 x2 x3 x4 sg) → (∀ (x3 : Int32) (sg : Sg), J188 x3 sg → I188 x3 sg) → ∀ (x2 : Int32) (x3 : Int32) (x4 : Int32) (sg : Sg), B_L_law_119 Z J101 J119 J188 x2 x3 x4 sg → I119 x2 x3 x4 sg) → (∀ (J101 : Int32 → Int32 → Sg → Prop) (J119 : Int32 → Int32 → Int32 → Sg → Prop) (J188 : Int32 → Sg → Prop), (∀ (x2 : Int32) (x3 : Int32) (sg : Sg), J101 x2 x3 sg → I101 x2 x3 sg) → (∀ (x2 : Int32) (x3 : Int32) (x4 : Int32) (sg : Sg), J119 x2 x3 x4 sg → I119 x2 x3 x4 sg) → (∀ (x3 : Int32) (sg : Sg), J188 x3 sg → I188 x3 sg) → ∀ (x3 : Int32) (sg : Sg), B_L_law_188 Z J101 J119 J188 x3 sg → I188 x3 sg) → I101 x2 x3 sg
def Wp_L_law_119 (Z : Int32 → Prop) (x2 : Int32) (x3 : Int32) (x4 : Int32) (sg : Sg) : Prop := ∀ (I101 : Int32 → Int32 → Sg → Prop) (I119 : Int32 → Int32 → Int32 → Sg → Prop) (I188 : Int32 → Sg → Prop), (∀ (J101 : Int32 → Int32 → Sg → Prop) (J119 : Int32 → Int32 → Int32 → Sg → Prop) (J188 : Int32 → Sg → Prop), (∀ (x2 : Int32) (x3 : Int32) (sg : Sg), J101 x2 x3 sg → I101 x2 x3 sg) → (∀ (x2 : Int32) (x3 : Int32) (x4 : Int32) (sg : Sg), J119 x2 x3 x4 sg → I119 x2 x3 x4 sg) → (∀ (x3 : Int32) (sg : Sg), J188 x3 sg → I188 x3 sg) → ∀ (x2 : Int32) (x3 : Int32) (sg : Sg), B_L_law_101 Z J101 J119 J188 x2 x3 sg → I101 x2 x3 sg) → (∀ (J101 : Int32 → Int32 → Sg → Prop) (J119 : Int32 → Int32 → Int32 → Sg → Prop) (J188 : Int32 → Sg → Prop), (∀ (x2 : Int32) (x3 : Int32) (sg : Sg), J101 x2 x3 sg → I101 x2 x3 sg) → (∀ (x2 : Int32) (x3 : Int32) (x4 : Int32) (sg : Sg), J119 x2 x3 x4 sg → I119 x2 x3 x4 sg) → (∀ (x3 : Int32) (sg : Sg), J188 x3 sg → I188 x3 sg) → ∀ (x2 : Int32) (x3 : Int32) (x4 : Int32) (sg : Sg), B_L_law_119 Z J101 J119 J188 x2 x3 x4 sg → I119 x2 x3 x4 sg) → (∀ (J101 : Int32 → Int32 → Sg → Prop) (J119 : Int32 → Int32 → Int32 → Sg → Prop) (J188 : Int32 → Sg → Prop), (∀ (x2 : Int32) (x3 : Int32) (sg : Sg), J101 x2 x3 sg → I101 x2 x3 sg) → (∀ (x2 : Int32) (x3 : Int32) (x4 : Int32) (sg : Sg), J119 x2 x3 x4 sg → I119 x2 x3 x4 sg) → (∀ (x3 : Int32) (sg : Sg), J188 x3 sg → I188 x3 sg) → ∀ (x3 : Int32) (sg : Sg), B_L_law_188 Z J101 J119 J188 x3 sg → I188 x3 sg) → I119 x2 x3 x4 sg
def Wp_L_law_188 (Z : Int32 → Prop) (x3 : Int32) (sg : Sg) : Prop := ∀ (I101 : Int32 → Int32 → Sg → Prop) (I119 : Int32 → Int32 → Int32 → Sg → Prop) (I188 : Int32 → Sg → Prop), (∀ (J101 : Int32 → Int32 → Sg → Prop) (J119 : Int32 → Int32 → Int32 → Sg → Prop) (J188 : Int32 → Sg → Prop), (∀ (x2 : Int32) (x3 : Int32) (sg : Sg), J101 x2 x3 sg → I101 x2 x3 sg) → (∀ (x2 : Int32) (x3 : Int32) (x4 : Int32) (sg : Sg), J119 x2 x3 x4 sg → I119 x2 x3 x4 sg) → (∀ (x3 : Int32) (sg : Sg), J188 x3 sg → I188 x3 sg) → ∀ (x2 : Int32) (x3 : Int32) (sg : Sg), B_L_law_101 Z J101 J119 J188 x2 x3 sg → I101 x2 x3 sg) → (∀ (J101 : Int32 → Int32 → Sg → Prop) (J119 : Int32 → Int32 → Int32 → Sg → Prop) (J188 : Int32 → Sg → Prop), (∀ (x2 : Int32) (x3 : Int32) (sg : Sg), J101 x2 x3 sg → I101 x2 x3 sg) → (∀ (x2 : Int32) (x3 : Int32) (x4 : Int32) (sg : Sg), J119 x2 x3 x4 sg → I119 x2 x3 x4 sg) → (∀ (x3 : Int32) (sg : Sg), J188 x3 sg → I188 x3 sg) → ∀ (x2 : Int32) (x3 : Int32) (x4 : Int32) (sg : Sg), B_L_law_119 Z J101 J119 J188 x2 x3 x4 sg → I119 x2 x3 x4 sg) → (∀ (J101 : Int32 → Int32 → Sg → Prop) (J119 : Int32 → Int32 → Int32 → Sg → Prop) (J188 : Int32 → Sg → Prop), (∀ (x2 : Int32) (x3 : Int32) (sg : Sg), J101 x2 x3 sg → I101 x2 x3 sg) → (∀ (x2 : Int32) (x3 : Int32) (x4 : Int32) (sg : Sg), J119 x2 x3 x4 sg → I119 x2 x3 x4 sg) → (∀ (x3 : Int32) (sg : Sg), J188 x3 sg → I188 x3 sg) → ∀ (x3 : Int32) (sg : Sg), B_L_law_188 Z J101 J119 J188 x3 sg → I188 x3 sg) → I188 x3 sg
theorem F_L_law_101 (Z : Int32 → Prop) (x2 : Int32) (x3 : Int32) (sg : Sg) (h : B_L_law_101 Z (Wp_L_law_101 Z) (Wp_L_law_119 Z) (Wp_L_law_188 Z) x2 x3 sg) : Wp_L_law_101 Z x2 x3 sg := fun I101 I119 I188 h101 h119 h188 => h101 _ _ _ (fun x2 x3 sg hx => hx I101 I119 I188 h101 h119 h188) (fun x2 x3 x4 sg hx => hx I101 I119 I188 h101 h119 h188) (fun x3 sg hx => hx I101 I119 I188 h101 h119 h188) x2 x3 sg h
theorem F_L_law_119 (Z : Int32 → Prop) (x2 : Int32) (x3 : Int32) (x4 : Int32) (sg : Sg) (h : B_L_law_119 Z (Wp_L_law_101 Z) (Wp_L_law_119 Z) (Wp_L_law_188 Z) x2 x3 x4 sg) : Wp_L_law_119 Z x2 x3 x4 sg := fun I101 I119 I188 h101 h119 h188 => h119 _ _ _ (fun x2 x3 sg hx => hx I101 I119 I188 h101 h119 h188) (fun x2 x3 x4 sg hx => hx I101 I119 I188 h101 h119 h188) (fun x3 sg hx => hx I101 I119 I188 h101 h119 h188) x2 x3 x4 sg h
theorem F_L_law_188 (Z : Int32 → Prop) (x3 : Int32) (sg : Sg) (h : B_L_law_188 Z (Wp_L_law_101 Z) (Wp_L_law_119 Z) (Wp_L_law_188 Z) x3 sg) : Wp_L_law_188 Z x3 sg := fun I101 I119 I188 h101 h119 h188 => h188 _ _ _ (fun x2 x3 sg hx => hx I101 I119 I188 h101 h119 h188) (fun x2 x3 x4 sg hx => hx I101 I119 I188 h101 h119 h188) (fun x3 sg hx => hx I101 I119 I188 h101 h119 h188) x3 sg h
def Wp_L_law (sg : Sg) (Z : Int32 → Prop) : Prop := (Wq_best sg (0 : Int32) (fun r_1 => ((¬ r_1 = (-2 : Int32) → (Z (0 : Int32))) ∧ (r_1 = (-2 : Int32) → (Wq_calm sg (0 : Int32) (fun r_3 => ((¬ r_3 = (-2 : Int32) → (Z (0 : Int32))) ∧ (r_3 = (-2 : Int32) → (Wq_undo sg (fun r_5 sg_6 => ((¬ r_5 = (-2 : Int32) → (Z (0 : Int32))) ∧ (r_5 = (-2 : Int32) → (Wq_exchange sg_6 (fun r_8 sg_9 => ((¬ r_8 = (-2 : Int32) → (Z (0 : Int32))) ∧ (r_8 = (-2 : Int32) → (Wq_count sg_9 (1 : Int32) (fun r_11 => ((¬ r_11 = (24 : Int32) → (Z (0 : Int32))) ∧ (r_11 = (24 : Int32) → (Wq_ring sg_9 (0 : Int32) (fun r_13 => ((¬ r_13 = (-9 : Int32) → (Z (0 : Int32))) ∧ (r_13 = (-9 : Int32) → (Wq_calls sg_9 (5 : Int32) (1 : Int32) (fun r_15 => ((¬ r_15 = (-1 : Int32) → (Z (0 : Int32))) ∧ (r_15 = (-1 : Int32) → (Wq_count sg_9 (4 : Int32) (fun r_17 => ((r_17 = (1 : Int32) → (¬ (0 : Int32) < (0 : Int32) ∧ (∀ r_19 : Int32, (Wp_L_low r_19 (4 : Int32) (fun r_21 => ((Wp_L_law_101 Z) ((1 : Int32) + r_21) (0 : Int32) sg_9)))))) ∧ (¬ r_17 = (1 : Int32) → (Z (0 : Int32))))))))))))))))))))))))))))))))))
set_option maxHeartbeats 20000000 in
set_option maxRecDepth 100000 in
theorem law_body {p : Program} {l : Launch} {e : Env} {s : State} {m : MethodId} {below : List Frame} {meth : Method} {c : Code} {dC : Nat → ClassId} {dI : Nat → Nat → Nat} {kI kA kC : ClassId} {so b N cells slots : Nat} {sx : Nat → Int32} {A : Nat → Prop} {sg : Sg} {w : va_W} {H : Heap} {locs : List Loc} {ls : Array Slot} {Q : State → Prop} {Z : Int32 → Prop} (hx : p.tables.exec = Jvm.exec) (hb : c.code = cL_law) (hml : c.maxLocals = 7) (hown : s.vm.findClass RL = some m.cls) (hts : ∀ w ∈ wsL_law, w.before #[Value.ref b] s = true) (hX : va_X b N sx s s.heap) (hbl : b < s.heap.size) (hbA : ¬ A b) (hN : N ≤ 260) (hA : ∀ q : Nat, s.heap.size ≤ q → A q) (hK : va_K (dC, dI) vwCl (zty kI kA kC) s) (hf : cells ≤ room_1.cells ∧ slots ≤ room_1.slots)
    (hret : ∀ (pc : Nat) (v : Int32) (H : Heap) (locs : List Loc) (ls : Array Slot), (True → narrow .boolean (.int v) = .int v) → Z v → va_S A s.heap H locs → decode cL_law pc = .ok (.ireturn, 1) → W p l e room_1 s m #[Value.ref b] below meth c H locs cells slots Q (F0 m pc ls [.int v]))
    (hw : Wp_L_law sg Z) (hI : OI kI kA kC so sg w) (hl : lv_has ls 7 [(0, .ref b), (1, .ref so)]) (hP : va_P (dC, dI) vwCl w H) (hD : va_D A w) (hS : va_S A s.heap H locs) : W p l e room_1 s m #[Value.ref b] below meth c H locs cells slots Q (F0 m 8 ls []) := by
  have k_416 : ∀ (J101 : Int32 → Int32 → Sg → Prop) (J119 : Int32 → Int32 → Int32 → Sg → Prop) (J188 : Int32 → Sg → Prop) (hJ101 : ∀ (x2 : Int32) (x3 : Int32) (sg : Sg), J101 x2 x3 sg → ∀ (w : va_W) (ls : Array Slot) (H : Heap) (locs : List Loc), OI kI kA kC so sg w → lv_has ls 7 [(0, .ref b), (1, .ref so), (2, .int x2), (3, .int x3)] → va_P (dC, dI) vwCl w H → va_D A w → va_S A s.heap H locs → W p l e (room_1) s m #[Value.ref b] below meth c H locs cells slots Q (F0 m 101 ls [])) (hJ119 : ∀ (x2 : Int32) (x3 : Int32) (x4 : Int32) (sg : Sg), J119 x2 x3 x4 sg → ∀ (w : va_W) (ls : Array Slot) (H : Heap) (locs : List Loc), OI kI kA kC so sg w → lv_has ls 7 [(0, .ref b), (1, .ref so), (2, .int x2), (3, .int x3), (4, .int x4)] → va_P (dC, dI) vwCl w H → va_D A w → va_S A s.heap H locs → W p l e (room_1) s m #[Value.ref b] below meth c H locs cells slots Q (F0 m 119 ls [])) (hJ188 : ∀ (x3 : Int32) (sg : Sg), J188 x3 sg → ∀ (w : va_W) (ls : Array Slot) (H : Heap) (locs : List Loc), OI kI kA kC so sg w → lv_has ls 7 [(0, .ref b), (1, .ref so), (3, .int x3)] → va_P (dC, dI) vwCl w H → va_D A w → va_S A s.heap H locs → W p l e (room_1) s m #[Value.ref b] below meth c H locs cells slots Q (F0 m 188 ls [])), ∀ (x3 : Int64) (sg : Sg) (t0 : Int32), K_L_law_416 Z J101 J119 J188 x3 sg t0 → ∀ (w : va_W) (ls : Array Slot) (H : Heap) (locs : List Loc), OI kI kA kC so sg w → lv_has ls 7 [(1, .ref so), (3, .long x3)] → va_P (dC, dI) vwCl w H → va_D A w → va_S A s.heap H locs → W p l e (room_1) s m #[Value.ref b] below meth c H locs cells slots Q (F0 m 416 ls [.int t0]) := by
    intro J101 J119 J188 hJ101 hJ119 hJ188 x3 sg t0 hw w ls H locs hI hl hP hD hS
    unfold K_L_law_416 at hw
    refine lv_istore (lv' := [(5, .int t0), (1, .ref so), (3, .long x3)]) hx hb dL_law_416 hl (by decide) rfl (fun ls hl => ?_)
    refine lv_iload hx hb dL_law_418 (lv_at hl 0 rfl) ?_
    refine lv_if_eq (tgt := 436) hx hb dL_law_420 (by decide) (fun c_85 => ?_) (fun c_85 => ?_)
    · have hw := hw.1 c_85
      refine lv_iconst (v := (0 : Int32)) hx hb dL_law_436 (by decide) ?_
      exact hret 437 (0 : Int32) _ _ _ (fun _ => rfl) hw hS dL_law_437
    · have hw := hw.2 c_85
      refine lv_aload_n hx hb dL_law_423 rfl (lv_at hl 1 rfl) ?_
      refine zcallSj (As := [.ref so]) (rest := []) ⟨hx, hb, hml, hown, hts⟩ (c_L_told l dC dI kI kA kC so _ _ sg _ hI hw) (va_cwS 1 hts gL_law_L_told rfl rfl rfl (by decide +kernel) ⟨Nat.le_of_ble_eq_true rfl, Nat.le_of_ble_eq_true rfl⟩) hK hP hD hS hA rfl hl.1 rfl (Nat.le_of_ble_eq_true rfl) dL_law_424 hf (fun r_86 w H locs hw hI hP hD hS => ?_)
      refine lv_lload_n hx hb dL_law_427 rfl (lv_at hl 2 rfl) ?_
      refine W.lcmp hx hb dL_law_428 ?_
      refine lv_if_ne (tgt := 436) hx hb dL_law_429 (by decide) (fun c_87 => ?_) (fun c_87 => ?_)
      · have hw := hw.1 c_87
        refine lv_iconst (v := (0 : Int32)) hx hb dL_law_436 (by decide) ?_
        exact hret 437 (0 : Int32) _ _ _ (fun _ => rfl) hw hS dL_law_437
      · have hw := hw.2 c_87
        refine lv_iconst (v := (1 : Int32)) hx hb dL_law_432 (by decide) ?_
        refine lv_goto (tgt := 437) hx hb dL_law_433 (by decide) ?_
        exact hret 437 (1 : Int32) _ _ _ (fun _ => rfl) hw hS dL_law_437
  have k_271 : ∀ (J101 : Int32 → Int32 → Sg → Prop) (J119 : Int32 → Int32 → Int32 → Sg → Prop) (J188 : Int32 → Sg → Prop) (hJ101 : ∀ (x2 : Int32) (x3 : Int32) (sg : Sg), J101 x2 x3 sg → ∀ (w : va_W) (ls : Array Slot) (H : Heap) (locs : List Loc), OI kI kA kC so sg w → lv_has ls 7 [(0, .ref b), (1, .ref so), (2, .int x2), (3, .int x3)] → va_P (dC, dI) vwCl w H → va_D A w → va_S A s.heap H locs → W p l e (room_1) s m #[Value.ref b] below meth c H locs cells slots Q (F0 m 101 ls [])) (hJ119 : ∀ (x2 : Int32) (x3 : Int32) (x4 : Int32) (sg : Sg), J119 x2 x3 x4 sg → ∀ (w : va_W) (ls : Array Slot) (H : Heap) (locs : List Loc), OI kI kA kC so sg w → lv_has ls 7 [(0, .ref b), (1, .ref so), (2, .int x2), (3, .int x3), (4, .int x4)] → va_P (dC, dI) vwCl w H → va_D A w → va_S A s.heap H locs → W p l e (room_1) s m #[Value.ref b] below meth c H locs cells slots Q (F0 m 119 ls [])) (hJ188 : ∀ (x3 : Int32) (sg : Sg), J188 x3 sg → ∀ (w : va_W) (ls : Array Slot) (H : Heap) (locs : List Loc), OI kI kA kC so sg w → lv_has ls 7 [(0, .ref b), (1, .ref so), (3, .int x3)] → va_P (dC, dI) vwCl w H → va_D A w → va_S A s.heap H locs → W p l e (room_1) s m #[Value.ref b] below meth c H locs cells slots Q (F0 m 188 ls [])), ∀ (x3 : Int32) (x4 : Int64) (sg : Sg), K_L_law_271 Z J101 J119 J188 x3 x4 sg → ∀ (w : va_W) (ls : Array Slot) (H : Heap) (locs : List Loc), OI kI kA kC so sg w → lv_has ls 7 [(0, .ref b), (1, .ref so), (3, .int x3), (4, .long x4)] → va_P (dC, dI) vwCl w H → va_D A w → va_S A s.heap H locs → W p l e (room_1) s m #[Value.ref b] below meth c H locs cells slots Q (F0 m 271 ls []) := by
    intro J101 J119 J188 hJ101 hJ119 hJ188 x3 x4 sg hw w ls H locs hI hl hP hD hS
    unfold K_L_law_271 at hw
    refine lv_iload_n hx hb dL_law_271 rfl (lv_at hl 2 rfl) ?_
    refine lv_iconst (v := (3 : Int32)) hx hb dL_law_272 (by decide) ?_
    refine lv_irem hx hb dL_law_273 (by decide) ?_
    refine lv_if_ne (tgt := 306) hx hb dL_law_274 (by decide) (fun c_77 => ?_) (fun c_77 => ?_)
    · have hw := hw.1 c_77
      refine lv_iinc (v := (x3 + (1 : Int32))) (lv' := [(3, .int (x3 + (1 : Int32))), (0, .ref b), (1, .ref so), (4, .long x4)]) hx hb dL_law_306 hl (k := 2) rfl (by first | rfl | decide) (by decide) rfl (fun ls hl => ?_)
      refine lv_goto (tgt := 188) hx hb dL_law_309 (by decide) ?_
      exact hJ188 (x3 + (1 : Int32)) sg hw _ ls _ _ hI (lv_sub hl [1, 2, 0] rfl) hP hD hS
    · have hw := hw.2 c_77
      refine lv_aload_n hx hb dL_law_277 rfl (lv_at hl 1 rfl) ?_
      refine zcallSj (As := [.ref so]) (rest := []) ⟨hx, hb, hml, hown, hts⟩ (c_L_told l dC dI kI kA kC so _ _ sg _ hI hw) (va_cwS 1 hts gL_law_L_told rfl rfl rfl (by decide +kernel) ⟨Nat.le_of_ble_eq_true rfl, Nat.le_of_ble_eq_true rfl⟩) hK hP hD hS hA rfl hl.1 rfl (Nat.le_of_ble_eq_true rfl) dL_law_278 hf (fun r_78 w H locs hw hI hP hD hS => ?_)
      refine lv_lload hx hb dL_law_281 (lv_at hl 3 rfl) ?_
      refine W.lcmp hx hb dL_law_283 ?_
      refine lv_if_eq (tgt := 306) hx hb dL_law_284 (by decide) (fun c_79 => ?_) (fun c_79 => ?_)
      · have hw := hw.1 c_79
        refine lv_iinc (v := (x3 + (1 : Int32))) (lv' := [(3, .int (x3 + (1 : Int32))), (0, .ref b), (1, .ref so), (4, .long x4)]) hx hb dL_law_306 hl (k := 2) rfl (by first | rfl | decide) (by decide) rfl (fun ls hl => ?_)
        refine lv_goto (tgt := 188) hx hb dL_law_309 (by decide) ?_
        exact hJ188 (x3 + (1 : Int32)) sg hw _ ls _ _ hI (lv_sub hl [1, 2, 0] rfl) hP hD hS
      · have hw := hw.2 c_79
        refine lv_aload_n hx hb dL_law_287 rfl (lv_at hl 1 rfl) ?_
        refine k_undo ⟨hx, hb, hml, hown, hts⟩ (cwV 0 hts gL_law_X6_undo rfl rfl rfl (by decide +kernel) ⟨Nat.le_of_ble_eq_true rfl, Nat.le_of_ble_eq_true rfl⟩) hK hI hP hD hS hA hl.1 (Nat.le_of_ble_eq_true rfl) dL_law_288 hf hw (fun r_80 sg_81 w H locs hw hI hP hD hS => ?_)
        refine lv_if_lt (tgt := 304) hx hb dL_law_291 (by decide) (fun c_82 => ?_) (fun c_82 => ?_)
        · have hw := hw.1 c_82
          refine lv_iconst (v := (0 : Int32)) hx hb dL_law_304 (by decide) ?_
          exact hret 305 (0 : Int32) _ _ _ (fun _ => rfl) hw hS dL_law_305
        · have hw := hw.2 c_82
          refine lv_aload_n hx hb dL_law_294 rfl (lv_at hl 1 rfl) ?_
          refine zcallSj (As := [.ref so]) (rest := []) ⟨hx, hb, hml, hown, hts⟩ (c_L_told l dC dI kI kA kC so _ _ sg_81 _ hI hw) (va_cwS 1 hts gL_law_L_told rfl rfl rfl (by decide +kernel) ⟨Nat.le_of_ble_eq_true rfl, Nat.le_of_ble_eq_true rfl⟩) hK hP hD hS hA rfl hl.1 rfl (Nat.le_of_ble_eq_true rfl) dL_law_295 hf (fun r_83 w H locs hw hI hP hD hS => ?_)
          refine lv_lload hx hb dL_law_298 (lv_at hl 3 rfl) ?_
          refine W.lcmp hx hb dL_law_300 ?_
          refine lv_if_eq (tgt := 306) hx hb dL_law_301 (by decide) (fun c_84 => ?_) (fun c_84 => ?_)
          · have hw := hw.1 c_84
            refine lv_iinc (v := (x3 + (1 : Int32))) (lv' := [(3, .int (x3 + (1 : Int32))), (0, .ref b), (1, .ref so), (4, .long x4)]) hx hb dL_law_306 hl (k := 2) rfl (by first | rfl | decide) (by decide) rfl (fun ls hl => ?_)
            refine lv_goto (tgt := 188) hx hb dL_law_309 (by decide) ?_
            exact hJ188 (x3 + (1 : Int32)) sg_81 hw _ ls _ _ hI (lv_sub hl [1, 2, 0] rfl) hP hD hS
          · have hw := hw.2 c_84
            refine lv_iconst (v := (0 : Int32)) hx hb dL_law_304 (by decide) ?_
            exact hret 305 (0 : Int32) _ _ _ (fun _ => rfl) hw hS dL_law_305
  have key : ∀ (J101 : Int32 → Int32 → Sg → Prop) (J119 : Int32 → Int32 → Int32 → Sg → Prop) (J188 : Int32 → Sg → Prop) (hJ101 : ∀ (x2 : Int32) (x3 : Int32) (sg : Sg), J101 x2 x3 sg → ∀ (w : va_W) (ls : Array Slot) (H : Heap) (locs : List Loc), OI kI kA kC so sg w → lv_has ls 7 [(0, .ref b), (1, .ref so), (2, .int x2), (3, .int x3)] → va_P (dC, dI) vwCl w H → va_D A w → va_S A s.heap H locs → W p l e (room_1) s m #[Value.ref b] below meth c H locs cells slots Q (F0 m 101 ls [])) (hJ119 : ∀ (x2 : Int32) (x3 : Int32) (x4 : Int32) (sg : Sg), J119 x2 x3 x4 sg → ∀ (w : va_W) (ls : Array Slot) (H : Heap) (locs : List Loc), OI kI kA kC so sg w → lv_has ls 7 [(0, .ref b), (1, .ref so), (2, .int x2), (3, .int x3), (4, .int x4)] → va_P (dC, dI) vwCl w H → va_D A w → va_S A s.heap H locs → W p l e (room_1) s m #[Value.ref b] below meth c H locs cells slots Q (F0 m 119 ls [])) (hJ188 : ∀ (x3 : Int32) (sg : Sg), J188 x3 sg → ∀ (w : va_W) (ls : Array Slot) (H : Heap) (locs : List Loc), OI kI kA kC so sg w → lv_has ls 7 [(0, .ref b), (1, .ref so), (3, .int x3)] → va_P (dC, dI) vwCl w H → va_D A w → va_S A s.heap H locs → W p l e (room_1) s m #[Value.ref b] below meth c H locs cells slots Q (F0 m 188 ls [])), (∀ (x2 : Int32) (x3 : Int32) (sg : Sg), B_L_law_101 Z J101 J119 J188 x2 x3 sg → ∀ (w : va_W) (ls : Array Slot) (H : Heap) (locs : List Loc), OI kI kA kC so sg w → lv_has ls 7 [(0, .ref b), (1, .ref so), (2, .int x2), (3, .int x3)] → va_P (dC, dI) vwCl w H → va_D A w → va_S A s.heap H locs → W p l e (room_1) s m #[Value.ref b] below meth c H locs cells slots Q (F0 m 101 ls [])) ∧ (∀ (x2 : Int32) (x3 : Int32) (x4 : Int32) (sg : Sg), B_L_law_119 Z J101 J119 J188 x2 x3 x4 sg → ∀ (w : va_W) (ls : Array Slot) (H : Heap) (locs : List Loc), OI kI kA kC so sg w → lv_has ls 7 [(0, .ref b), (1, .ref so), (2, .int x2), (3, .int x3), (4, .int x4)] → va_P (dC, dI) vwCl w H → va_D A w → va_S A s.heap H locs → W p l e (room_1) s m #[Value.ref b] below meth c H locs cells slots Q (F0 m 119 ls [])) ∧ (∀ (x3 : Int32) (sg : Sg), B_L_law_188 Z J101 J119 J188 x3 sg → ∀ (w : va_W) (ls : Array Slot) (H : Heap) (locs : List Loc), OI kI kA kC so sg w → lv_has ls 7 [(0, .ref b), (1, .ref so), (3, .int x3)] → va_P (dC, dI) vwCl w H → va_D A w → va_S A s.heap H locs → W p l e (room_1) s m #[Value.ref b] below meth c H locs cells slots Q (F0 m 188 ls [])) := by
    intro J101 J119 J188 hJ101 hJ119 hJ188
    refine ⟨?_, ?_, ?_⟩
    · intro x2 x3 sg hw w ls H locs hI hl hP hD hS
      unfold B_L_law_101 at hw
      refine lv_iload_n hx hb dL_law_101 rfl (lv_at hl 3 rfl) ?_
      refine lv_iload_n hx hb dL_law_102 rfl (lv_at hl 2 rfl) ?_
      refine lv_icmp_ge (tgt := 186) hx hb dL_law_103 (by decide) (fun c_22 => ?_) (fun c_22 => ?_)
      · have hw := hw.1 c_22
        refine lv_iconst (v := (0 : Int32)) hx hb dL_law_186 (by decide) ?_
        refine lv_istore_n (lv' := [(3, .int (0 : Int32)), (0, .ref b), (1, .ref so), (2, .int x2)]) hx hb dL_law_187 rfl hl (by decide) rfl (fun ls hl => ?_)
        exact hJ188 (0 : Int32) sg hw _ ls _ _ hI (lv_sub hl [1, 2, 0] rfl) hP hD hS
      · have hw := hw.2 c_22
        refine lv_aload_n hx hb dL_law_106 rfl (lv_at hl 1 rfl) ?_
        refine k_addGuest ⟨hx, hb, hml, hown, hts⟩ (cwV 0 hts gL_law_X6_addGuest rfl rfl rfl (by decide +kernel) ⟨Nat.le_of_ble_eq_true rfl, Nat.le_of_ble_eq_true rfl⟩) hK hI hP hD hS hA hl.1 (Nat.le_of_ble_eq_true rfl) dL_law_107 hf hw (fun r_23 sg_24 w H locs hw hI hP hD hS => ?_)
        refine lv_iload_n hx hb dL_law_110 rfl (lv_at hl 3 rfl) ?_
        refine lv_icmp_eq (tgt := 116) hx hb dL_law_111 (by decide) (fun c_25 => ?_) (fun c_25 => ?_)
        · have hw := hw.1 c_25
          refine lv_iconst (v := (0 : Int32)) hx hb dL_law_116 (by decide) ?_
          refine lv_istore (lv' := [(4, .int (0 : Int32)), (0, .ref b), (1, .ref so), (2, .int x2), (3, .int x3)]) hx hb dL_law_117 hl (by decide) rfl (fun ls hl => ?_)
          exact hJ119 x2 x3 (0 : Int32) sg_24 hw _ ls _ _ hI (lv_sub hl [1, 2, 3, 4, 0] rfl) hP hD hS
        · have hw := hw.2 c_25
          refine lv_iconst (v := (0 : Int32)) hx hb dL_law_114 (by decide) ?_
          exact hret 115 (0 : Int32) _ _ _ (fun _ => rfl) hw hS dL_law_115
    · intro x2 x3 x4 sg hw w ls H locs hI hl hP hD hS
      unfold B_L_law_119 at hw
      refine lv_iload hx hb dL_law_119 (lv_at hl 4 rfl) ?_
      refine lv_iconst (v := (4 : Int32)) hx hb dL_law_121 (by decide) ?_
      refine lv_icmp_ge (tgt := 180) hx hb dL_law_122 (by decide) (fun c_26 => ?_) (fun c_26 => ?_)
      · have hw := hw.1 c_26
        refine lv_iinc (v := (x3 + (1 : Int32))) (lv' := [(3, .int (x3 + (1 : Int32))), (0, .ref b), (1, .ref so), (2, .int x2), (4, .int x4)]) hx hb dL_law_180 hl (k := 3) rfl (by first | rfl | decide) (by decide) rfl (fun ls hl => ?_)
        refine lv_goto (tgt := 101) hx hb dL_law_183 (by decide) ?_
        exact hJ101 x2 (x3 + (1 : Int32)) sg hw _ ls _ _ hI (lv_sub hl [1, 2, 3, 0] rfl) hP hD hS
      · have hw := hw.2 c_26
        refine lv_aload_n hx hb dL_law_125 rfl (lv_at hl 0 rfl) ?_
        refine lv_iconst (v := (1 : Int32)) hx hb dL_law_126 (by decide) ?_
        refine lv_iconst (v := (4 : Int32)) hx hb dL_law_127 (by decide) ?_
        refine lv_iload_n hx hb dL_law_128 rfl (lv_at hl 3 rfl) ?_
        refine lv_imul hx hb dL_law_129 ?_
        refine lv_iadd hx hb dL_law_130 ?_
        refine lv_iload hx hb dL_law_131 (lv_at hl 4 rfl) ?_
        refine lv_iadd hx hb dL_law_133 ?_
        obtain ⟨h_28, hw⟩ := hw
        refine zcallCell (rest := []) ⟨hx, hb, hml, hown, hts⟩ (va_cwS 2 hts gL_law_L_cell rfl rfl rfl (by decide +kernel) ⟨Nat.le_of_ble_eq_true rfl, Nat.le_of_ble_eq_true rfl⟩) hX hbl hbA hN h_28 hP hS hA hl.1 (Nat.le_of_ble_eq_true rfl) dL_law_134 hf (fun r_27 H locs hP hS => ?_)
        have hw := hw r_27
        refine lv_istore (lv' := [(5, .int r_27), (0, .ref b), (1, .ref so), (2, .int x2), (3, .int x3), (4, .int x4)]) hx hb dL_law_137 hl (by decide) rfl (fun ls hl => ?_)
        refine lv_aload_n hx hb dL_law_139 rfl (lv_at hl 2 rfl) ?_
        refine lv_iload_n hx hb dL_law_140 rfl (lv_at hl 4 rfl) ?_
        refine lv_iload hx hb dL_law_141 (lv_at hl 0 rfl) ?_
        refine lv_bipush (v := (12 : Int32)) hx hb dL_law_143 (by decide) ?_
        refine zcallS0 (As := [.int r_27, .int (12 : Int32)]) (rest := [.int x3, .ref so]) ⟨hx, hb, hml, hown, hts⟩ (c_L_low l dC dI kI kA kC _ r_27 (12 : Int32) _ hw) (va_cwS 2 hts gL_law_L_low rfl rfl rfl (by decide +kernel) ⟨Nat.le_of_ble_eq_true rfl, Nat.le_of_ble_eq_true rfl⟩) hK hP hD hS hA rfl hl.1 rfl (Nat.le_of_ble_eq_true rfl) dL_law_145 hf (fun r_29 H locs hw hP hD hS => ?_)
        refine lv_bipush (v := (12 : Int32)) hx hb dL_law_148 (by decide) ?_
        refine lv_iload hx hb dL_law_150 (lv_at hl 0 rfl) ?_
        refine lv_iconst (v := (4 : Int32)) hx hb dL_law_152 (by decide) ?_
        refine lv_ishr hx hb dL_law_153 ?_
        refine lv_bipush (v := (12 : Int32)) hx hb dL_law_154 (by decide) ?_
        refine zcallS0 (As := [.int (r_27 >>> ((4 : Int32) &&& 31)), .int (12 : Int32)]) (rest := [.int (12 : Int32), .int r_29, .int x3, .ref so]) ⟨hx, hb, hml, hown, hts⟩ (c_L_low l dC dI kI kA kC _ (r_27 >>> ((4 : Int32) &&& 31)) (12 : Int32) _ hw) (va_cwS 2 hts gL_law_L_low rfl rfl rfl (by decide +kernel) ⟨Nat.le_of_ble_eq_true rfl, Nat.le_of_ble_eq_true rfl⟩) hK hP hD hS hA rfl hl.1 rfl (Nat.le_of_ble_eq_true rfl) dL_law_156 hf (fun r_30 H locs hw hP hD hS => ?_)
        refine lv_iadd hx hb dL_law_159 ?_
        refine lv_iload hx hb dL_law_160 (lv_at hl 0 rfl) ?_
        refine lv_bipush (v := (8 : Int32)) hx hb dL_law_162 (by decide) ?_
        refine lv_ishr hx hb dL_law_164 ?_
        refine lv_bipush (v := (10 : Int32)) hx hb dL_law_165 (by decide) ?_
        refine zcallS0 (As := [.int (r_27 >>> ((8 : Int32) &&& 31)), .int (10 : Int32)]) (rest := [.int ((12 : Int32) + r_30), .int r_29, .int x3, .ref so]) ⟨hx, hb, hml, hown, hts⟩ (c_L_low l dC dI kI kA kC _ (r_27 >>> ((8 : Int32) &&& 31)) (10 : Int32) _ hw) (va_cwS 2 hts gL_law_L_low rfl rfl rfl (by decide +kernel) ⟨Nat.le_of_ble_eq_true rfl, Nat.le_of_ble_eq_true rfl⟩) hK hP hD hS hA rfl hl.1 rfl (Nat.le_of_ble_eq_true rfl) dL_law_167 hf (fun r_31 H locs hw hP hD hS => ?_)
        refine k_setValue ⟨hx, hb, hml, hown, hts⟩ (cwV 4 hts gL_law_X6_setValue rfl rfl rfl (by decide +kernel) ⟨Nat.le_of_ble_eq_true rfl, Nat.le_of_ble_eq_true rfl⟩) hK hI hP hD hS hA hl.1 (Nat.le_of_ble_eq_true rfl) dL_law_170 hf hw (fun r_32 sg_33 w H locs hw hI hP hD hS => ?_)
        refine lv_pop hx hb dL_law_173 rfl ?_
        refine lv_iinc (v := (x4 + (1 : Int32))) (lv' := [(4, .int (x4 + (1 : Int32))), (5, .int r_27), (0, .ref b), (1, .ref so), (2, .int x2), (3, .int x3)]) hx hb dL_law_174 hl (k := 5) rfl (by first | rfl | decide) (by decide) rfl (fun ls hl => ?_)
        refine lv_goto (tgt := 119) hx hb dL_law_177 (by decide) ?_
        exact hJ119 x2 x3 (x4 + (1 : Int32)) sg_33 hw _ ls _ _ hI (lv_sub hl [2, 3, 4, 5, 0] rfl) hP hD hS
    · intro x3 sg hw w ls H locs hI hl hP hD hS
      unfold B_L_law_188 at hw
      refine lv_iload_n hx hb dL_law_188 rfl (lv_at hl 2 rfl) ?_
      refine lv_bipush (v := (36 : Int32)) hx hb dL_law_189 (by decide) ?_
      refine lv_icmp_ge (tgt := 312) hx hb dL_law_191 (by decide) (fun c_34 => ?_) (fun c_34 => ?_)
      · have hw := hw.1 c_34
        refine lv_aload_n hx hb dL_law_312 rfl (lv_at hl 1 rfl) ?_
        refine zcallSj (As := [.ref so]) (rest := []) ⟨hx, hb, hml, hown, hts⟩ (c_L_told l dC dI kI kA kC so _ _ sg _ hI hw) (va_cwS 1 hts gL_law_L_told rfl rfl rfl (by decide +kernel) ⟨Nat.le_of_ble_eq_true rfl, Nat.le_of_ble_eq_true rfl⟩) hK hP hD hS hA rfl hl.1 rfl (Nat.le_of_ble_eq_true rfl) dL_law_313 hf (fun r_35 w H locs hw hI hP hD hS => ?_)
        refine lv_lstore_n (lv' := [(3, .long r_35), (0, .ref b), (1, .ref so)]) hx hb dL_law_316 rfl hl (by decide) rfl (fun ls hl => ?_)
        refine lv_aload_n hx hb dL_law_317 rfl (lv_at hl 2 rfl) ?_
        refine lv_iconst (v := (0 : Int32)) hx hb dL_law_318 (by decide) ?_
        refine lv_iconst (v := (5 : Int32)) hx hb dL_law_319 (by decide) ?_
        refine lv_iconst (v := (4 : Int32)) hx hb dL_law_320 (by decide) ?_
        refine lv_iconst (v := (1 : Int32)) hx hb dL_law_321 (by decide) ?_
        refine k_setValue ⟨hx, hb, hml, hown, hts⟩ (cwV 4 hts gL_law_X6_setValue rfl rfl rfl (by decide +kernel) ⟨Nat.le_of_ble_eq_true rfl, Nat.le_of_ble_eq_true rfl⟩) hK hI hP hD hS hA hl.1 (Nat.le_of_ble_eq_true rfl) dL_law_322 hf hw (fun r_36 sg_37 w H locs hw hI hP hD hS => ?_)
        refine lv_iconst (v := (-1 : Int32)) hx hb dL_law_325 (by decide) ?_
        refine lv_icmp_ne (tgt := 415) hx hb dL_law_326 (by decide) (fun c_38 => ?_) (fun c_38 => ?_)
        · have hw := hw.1 c_38
          refine lv_iconst (v := (0 : Int32)) hx hb dL_law_415 (by decide) ?_
          exact k_416 _ _ _ hJ101 hJ119 hJ188 r_35 sg_37 (0 : Int32) hw _ ls _ _ hI (lv_sub hl [2, 0] rfl) hP hD hS
        · have hw := hw.2 c_38
          refine lv_aload_n hx hb dL_law_329 rfl (lv_at hl 2 rfl) ?_
          refine lv_iconst (v := (4 : Int32)) hx hb dL_law_330 (by decide) ?_
          refine lv_iconst (v := (0 : Int32)) hx hb dL_law_331 (by decide) ?_
          refine lv_iconst (v := (0 : Int32)) hx hb dL_law_332 (by decide) ?_
          refine k_give ⟨hx, hb, hml, hown, hts⟩ (cwV 3 hts gL_law_X6_give rfl rfl rfl (by decide +kernel) ⟨Nat.le_of_ble_eq_true rfl, Nat.le_of_ble_eq_true rfl⟩) hK hI hP hD hS hA hl.1 (Nat.le_of_ble_eq_true rfl) dL_law_333 hf hw (fun r_39 sg_40 w H locs hw hI hP hD hS => ?_)
          refine lv_iconst (v := (-1 : Int32)) hx hb dL_law_336 (by decide) ?_
          refine lv_icmp_ne (tgt := 415) hx hb dL_law_337 (by decide) (fun c_41 => ?_) (fun c_41 => ?_)
          · have hw := hw.1 c_41
            refine lv_iconst (v := (0 : Int32)) hx hb dL_law_415 (by decide) ?_
            exact k_416 _ _ _ hJ101 hJ119 hJ188 r_35 sg_40 (0 : Int32) hw _ ls _ _ hI (lv_sub hl [2, 0] rfl) hP hD hS
          · have hw := hw.2 c_41
            refine lv_aload_n hx hb dL_law_340 rfl (lv_at hl 2 rfl) ?_
            refine lv_iconst (v := (0 : Int32)) hx hb dL_law_341 (by decide) ?_
            refine lv_bipush (v := (24 : Int32)) hx hb dL_law_342 (by decide) ?_
            refine k_putBack ⟨hx, hb, hml, hown, hts⟩ (cwV 2 hts gL_law_X6_putBack rfl rfl rfl (by decide +kernel) ⟨Nat.le_of_ble_eq_true rfl, Nat.le_of_ble_eq_true rfl⟩) hK hI hP hD hS hA hl.1 (Nat.le_of_ble_eq_true rfl) dL_law_344 hf hw (fun r_42 sg_43 w H locs hw hI hP hD hS => ?_)
            refine lv_iconst (v := (-1 : Int32)) hx hb dL_law_347 (by decide) ?_
            refine lv_icmp_ne (tgt := 415) hx hb dL_law_348 (by decide) (fun c_44 => ?_) (fun c_44 => ?_)
            · have hw := hw.1 c_44
              refine lv_iconst (v := (0 : Int32)) hx hb dL_law_415 (by decide) ?_
              exact k_416 _ _ _ hJ101 hJ119 hJ188 r_35 sg_43 (0 : Int32) hw _ ls _ _ hI (lv_sub hl [2, 0] rfl) hP hD hS
            · have hw := hw.2 c_44
              refine lv_aload_n hx hb dL_law_351 rfl (lv_at hl 2 rfl) ?_
              refine lv_bipush (v := (101 : Int32)) hx hb dL_law_352 (by decide) ?_
              refine lv_iconst (v := (1 : Int32)) hx hb dL_law_354 (by decide) ?_
              refine k_move ⟨hx, hb, hml, hown, hts⟩ (cwV 2 hts gL_law_X6_move rfl rfl rfl (by decide +kernel) ⟨Nat.le_of_ble_eq_true rfl, Nat.le_of_ble_eq_true rfl⟩) hK hI hP hD hS hA hl.1 (Nat.le_of_ble_eq_true rfl) dL_law_355 hf hw (fun r_45 sg_46 w H locs hw hI hP hD hS => ?_)
              refine lv_iconst (v := (-1 : Int32)) hx hb dL_law_358 (by decide) ?_
              refine lv_icmp_ne (tgt := 415) hx hb dL_law_359 (by decide) (fun c_47 => ?_) (fun c_47 => ?_)
              · have hw := hw.1 c_47
                refine lv_iconst (v := (0 : Int32)) hx hb dL_law_415 (by decide) ?_
                exact k_416 _ _ _ hJ101 hJ119 hJ188 r_35 sg_46 (0 : Int32) hw _ ls _ _ hI (lv_sub hl [2, 0] rfl) hP hD hS
              · have hw := hw.2 c_47
                refine lv_aload_n hx hb dL_law_362 rfl (lv_at hl 2 rfl) ?_
                refine lv_iconst (v := (5 : Int32)) hx hb dL_law_363 (by decide) ?_
                refine lv_iconst (v := (0 : Int32)) hx hb dL_law_364 (by decide) ?_
                refine k_move ⟨hx, hb, hml, hown, hts⟩ (cwV 2 hts gL_law_X6_move rfl rfl rfl (by decide +kernel) ⟨Nat.le_of_ble_eq_true rfl, Nat.le_of_ble_eq_true rfl⟩) hK hI hP hD hS hA hl.1 (Nat.le_of_ble_eq_true rfl) dL_law_365 hf hw (fun r_48 sg_49 w H locs hw hI hP hD hS => ?_)
                refine lv_iconst (v := (-1 : Int32)) hx hb dL_law_368 (by decide) ?_
                refine lv_icmp_ne (tgt := 415) hx hb dL_law_369 (by decide) (fun c_50 => ?_) (fun c_50 => ?_)
                · have hw := hw.1 c_50
                  refine lv_iconst (v := (0 : Int32)) hx hb dL_law_415 (by decide) ?_
                  exact k_416 _ _ _ hJ101 hJ119 hJ188 r_35 sg_49 (0 : Int32) hw _ ls _ _ hI (lv_sub hl [2, 0] rfl) hP hD hS
                · have hw := hw.2 c_50
                  refine lv_aload_n hx hb dL_law_372 rfl (lv_at hl 2 rfl) ?_
                  refine lv_iconst (v := (0 : Int32)) hx hb dL_law_373 (by decide) ?_
                  refine lv_iconst (v := (0 : Int32)) hx hb dL_law_374 (by decide) ?_
                  refine k_trim ⟨hx, hb, hml, hown, hts⟩ (cwV 2 hts gL_law_X6_trim rfl rfl rfl (by decide +kernel) ⟨Nat.le_of_ble_eq_true rfl, Nat.le_of_ble_eq_true rfl⟩) hK hI hP hD hS hA hl.1 (Nat.le_of_ble_eq_true rfl) dL_law_375 hf hw (fun r_51 sg_52 w H locs hw hI hP hD hS => ?_)
                  refine lv_iconst (v := (-1 : Int32)) hx hb dL_law_378 (by decide) ?_
                  refine lv_icmp_ne (tgt := 415) hx hb dL_law_379 (by decide) (fun c_53 => ?_) (fun c_53 => ?_)
                  · have hw := hw.1 c_53
                    refine lv_iconst (v := (0 : Int32)) hx hb dL_law_415 (by decide) ?_
                    exact k_416 _ _ _ hJ101 hJ119 hJ188 r_35 sg_52 (0 : Int32) hw _ ls _ _ hI (lv_sub hl [2, 0] rfl) hP hD hS
                  · have hw := hw.2 c_53
                    refine lv_aload_n hx hb dL_law_382 rfl (lv_at hl 2 rfl) ?_
                    refine lv_bipush (v := (6 : Int32)) hx hb dL_law_383 (by decide) ?_
                    refine k_best ⟨hx, hb, hml, hown, hts⟩ (cwV 1 hts gL_law_X6_best rfl rfl rfl (by decide +kernel) ⟨Nat.le_of_ble_eq_true rfl, Nat.le_of_ble_eq_true rfl⟩) hK hI hP hD hS hA hl.1 (Nat.le_of_ble_eq_true rfl) dL_law_385 hf hw (fun r_54 w H locs hw hI hP hD hS => ?_)
                    refine lv_iconst (v := (-1 : Int32)) hx hb dL_law_388 (by decide) ?_
                    refine lv_icmp_ne (tgt := 415) hx hb dL_law_389 (by decide) (fun c_55 => ?_) (fun c_55 => ?_)
                    · have hw := hw.1 c_55
                      refine lv_iconst (v := (0 : Int32)) hx hb dL_law_415 (by decide) ?_
                      exact k_416 _ _ _ hJ101 hJ119 hJ188 r_35 sg_52 (0 : Int32) hw _ ls _ _ hI (lv_sub hl [2, 0] rfl) hP hD hS
                    · have hw := hw.2 c_55
                      refine lv_aload_n hx hb dL_law_392 rfl (lv_at hl 2 rfl) ?_
                      refine lv_bipush (v := (24 : Int32)) hx hb dL_law_393 (by decide) ?_
                      refine k_crumb ⟨hx, hb, hml, hown, hts⟩ (cwV 1 hts gL_law_X6_crumb rfl rfl rfl (by decide +kernel) ⟨Nat.le_of_ble_eq_true rfl, Nat.le_of_ble_eq_true rfl⟩) hK hI hP hD hS hA hl.1 (Nat.le_of_ble_eq_true rfl) dL_law_395 hf hw (fun r_56 w H locs hw hI hP hD hS => ?_)
                      refine lv_iconst (v := (-1 : Int32)) hx hb dL_law_398 (by decide) ?_
                      refine lv_icmp_ne (tgt := 415) hx hb dL_law_399 (by decide) (fun c_57 => ?_) (fun c_57 => ?_)
                      · have hw := hw.1 c_57
                        refine lv_iconst (v := (0 : Int32)) hx hb dL_law_415 (by decide) ?_
                        exact k_416 _ _ _ hJ101 hJ119 hJ188 r_35 sg_52 (0 : Int32) hw _ ls _ _ hI (lv_sub hl [2, 0] rfl) hP hD hS
                      · have hw := hw.2 c_57
                        refine lv_aload_n hx hb dL_law_402 rfl (lv_at hl 2 rfl) ?_
                        refine lv_iconst (v := (4 : Int32)) hx hb dL_law_403 (by decide) ?_
                        refine k_read ⟨hx, hb, hml, hown, hts⟩ (cwV 1 hts gL_law_X6_read rfl rfl rfl (by decide +kernel) ⟨Nat.le_of_ble_eq_true rfl, Nat.le_of_ble_eq_true rfl⟩) hK hI hP hD hS hA hl.1 (Nat.le_of_ble_eq_true rfl) dL_law_404 hf hw (fun r_58 sg_59 w H locs hw hI hP hD hS => ?_)
                        refine lv_iconst (v := (-1 : Int32)) hx hb dL_law_407 (by decide) ?_
                        refine lv_icmp_ne (tgt := 415) hx hb dL_law_408 (by decide) (fun c_60 => ?_) (fun c_60 => ?_)
                        · have hw := hw.1 c_60
                          refine lv_iconst (v := (0 : Int32)) hx hb dL_law_415 (by decide) ?_
                          exact k_416 _ _ _ hJ101 hJ119 hJ188 r_35 sg_59 (0 : Int32) hw _ ls _ _ hI (lv_sub hl [2, 0] rfl) hP hD hS
                        · have hw := hw.2 c_60
                          refine lv_iconst (v := (1 : Int32)) hx hb dL_law_411 (by decide) ?_
                          refine lv_goto (tgt := 416) hx hb dL_law_412 (by decide) ?_
                          exact k_416 _ _ _ hJ101 hJ119 hJ188 r_35 sg_59 (1 : Int32) hw _ ls _ _ hI (lv_sub hl [2, 0] rfl) hP hD hS
      · have hw := hw.2 c_34
        refine lv_aload_n hx hb dL_law_194 rfl (lv_at hl 1 rfl) ?_
        refine zcallSj (As := [.ref so]) (rest := []) ⟨hx, hb, hml, hown, hts⟩ (c_L_told l dC dI kI kA kC so _ _ sg _ hI hw) (va_cwS 1 hts gL_law_L_told rfl rfl rfl (by decide +kernel) ⟨Nat.le_of_ble_eq_true rfl, Nat.le_of_ble_eq_true rfl⟩) hK hP hD hS hA rfl hl.1 rfl (Nat.le_of_ble_eq_true rfl) dL_law_195 hf (fun r_61 w H locs hw hI hP hD hS => ?_)
        refine lv_lstore (lv' := [(4, .long r_61), (0, .ref b), (1, .ref so), (3, .int x3)]) hx hb dL_law_198 hl (by decide) rfl (fun ls hl => ?_)
        refine lv_aload_n hx hb dL_law_200 rfl (lv_at hl 2 rfl) ?_
        refine lv_bipush (v := (6 : Int32)) hx hb dL_law_201 (by decide) ?_
        refine k_count ⟨hx, hb, hml, hown, hts⟩ (cwV 1 hts gL_law_X6_count rfl rfl rfl (by decide +kernel) ⟨Nat.le_of_ble_eq_true rfl, Nat.le_of_ble_eq_true rfl⟩) hK hI hP hD hS hA hl.1 (Nat.le_of_ble_eq_true rfl) dL_law_203 hf hw (fun r_62 w H locs hw hI hP hD hS => ?_)
        refine lv_istore (lv' := [(6, .int r_62), (4, .long r_61), (0, .ref b), (1, .ref so), (3, .int x3)]) hx hb dL_law_206 hl (by decide) rfl (fun ls hl => ?_)
        refine lv_aload_n hx hb dL_law_208 rfl (lv_at hl 3 rfl) ?_
        refine lv_aload_n hx hb dL_law_209 rfl (lv_at hl 2 rfl) ?_
        refine lv_bipush (v := (17 : Int32)) hx hb dL_law_210 (by decide) ?_
        refine lv_iconst (v := (2 : Int32)) hx hb dL_law_212 (by decide) ?_
        refine lv_iload_n hx hb dL_law_213 rfl (lv_at hl 4 rfl) ?_
        refine lv_imul hx hb dL_law_214 ?_
        refine lv_iadd hx hb dL_law_215 ?_
        obtain ⟨h_64, hw⟩ := hw
        refine zcallCell (rest := [.ref so]) ⟨hx, hb, hml, hown, hts⟩ (va_cwS 2 hts gL_law_L_cell rfl rfl rfl (by decide +kernel) ⟨Nat.le_of_ble_eq_true rfl, Nat.le_of_ble_eq_true rfl⟩) hX hbl hbA hN h_64 hP hS hA hl.1 (Nat.le_of_ble_eq_true rfl) dL_law_216 hf (fun r_63 H locs hP hS => ?_)
        have hw := hw r_63
        refine lv_aload_n hx hb dL_law_219 rfl (lv_at hl 2 rfl) ?_
        refine lv_bipush (v := (18 : Int32)) hx hb dL_law_220 (by decide) ?_
        refine lv_iconst (v := (2 : Int32)) hx hb dL_law_222 (by decide) ?_
        refine lv_iload_n hx hb dL_law_223 rfl (lv_at hl 4 rfl) ?_
        refine lv_imul hx hb dL_law_224 ?_
        refine lv_iadd hx hb dL_law_225 ?_
        obtain ⟨h_66, hw⟩ := hw
        refine zcallCell (rest := [.int r_63, .ref so]) ⟨hx, hb, hml, hown, hts⟩ (va_cwS 2 hts gL_law_L_cell rfl rfl rfl (by decide +kernel) ⟨Nat.le_of_ble_eq_true rfl, Nat.le_of_ble_eq_true rfl⟩) hX hbl hbA hN h_66 hP hS hA hl.1 (Nat.le_of_ble_eq_true rfl) dL_law_226 hf (fun r_65 H locs hP hS => ?_)
        have hw := hw r_65
        refine zcallSa (As := [.ref so, .int r_63, .int r_65]) (rest := []) ⟨hx, hb, hml, hown, hts⟩ (c_L_acts l dC dI kI kA kC so _ _ sg r_63 r_65 _ hI hw) (va_cwS 3 hts gL_law_L_acts rfl rfl rfl (by decide +kernel) ⟨Nat.le_of_ble_eq_true rfl, Nat.le_of_ble_eq_true rfl⟩) hK hP hD hS hA rfl hl.1 rfl (Nat.le_of_ble_eq_true rfl) dL_law_229 hf (fun r_67 sg_68 w H locs hw hI hP hD hS => ?_)
        refine lv_if_eq (tgt := 269) hx hb dL_law_232 (by decide) (fun c_69 => ?_) (fun c_69 => ?_)
        · have hw := hw.1 c_69
          refine lv_iconst (v := (0 : Int32)) hx hb dL_law_269 (by decide) ?_
          exact hret 270 (0 : Int32) _ _ _ (fun _ => rfl) hw hS dL_law_270
        · have hw := hw.2 c_69
          refine lv_aload_n hx hb dL_law_235 rfl (lv_at hl 3 rfl) ?_
          refine zcallSl (As := [.ref so]) (rest := []) ⟨hx, hb, hml, hown, hts⟩ (c_L_rules l dC dI kI kA kC so _ _ sg_68 _ hI hw) (va_cwS 1 hts gL_law_L_rules rfl rfl rfl (by decide +kernel) ⟨Nat.le_of_ble_eq_true rfl, Nat.le_of_ble_eq_true rfl⟩) hK hP hD hS hA rfl hl.1 rfl (Nat.le_of_ble_eq_true rfl) dL_law_236 hf (fun r_70 w H locs hw hI hP hD hS => ?_)
          refine lv_if_eq (tgt := 269) hx hb dL_law_239 (by decide) (fun c_71 => ?_) (fun c_71 => ?_)
          · have hw := hw.1 c_71
            refine lv_iconst (v := (0 : Int32)) hx hb dL_law_269 (by decide) ?_
            exact hret 270 (0 : Int32) _ _ _ (fun _ => rfl) hw hS dL_law_270
          · have hw := hw.2 c_71
            refine lv_aload_n hx hb dL_law_242 rfl (lv_at hl 3 rfl) ?_
            refine lv_bipush (v := (6 : Int32)) hx hb dL_law_243 (by decide) ?_
            refine k_count ⟨hx, hb, hml, hown, hts⟩ (cwV 1 hts gL_law_X6_count rfl rfl rfl (by decide +kernel) ⟨Nat.le_of_ble_eq_true rfl, Nat.le_of_ble_eq_true rfl⟩) hK hI hP hD hS hA hl.1 (Nat.le_of_ble_eq_true rfl) dL_law_245 hf hw (fun r_72 w H locs hw hI hP hD hS => ?_)
            refine lv_iload hx hb dL_law_248 (lv_at hl 0 rfl) ?_
            refine lv_icmp_ne (tgt := 271) hx hb dL_law_250 (by decide) (fun c_73 => ?_) (fun c_73 => ?_)
            · have hw := hw.1 c_73
              exact k_271 _ _ _ hJ101 hJ119 hJ188 x3 r_61 sg_68 hw _ ls _ _ hI (lv_sub hl [2, 3, 4, 1] rfl) hP hD hS
            · have hw := hw.2 c_73
              refine lv_iload hx hb dL_law_253 (lv_at hl 0 rfl) ?_
              refine lv_iconst (v := (5 : Int32)) hx hb dL_law_255 (by decide) ?_
              refine lv_icmp_ge (tgt := 271) hx hb dL_law_256 (by decide) (fun c_74 => ?_) (fun c_74 => ?_)
              · have hw := hw.1 c_74
                exact k_271 _ _ _ hJ101 hJ119 hJ188 x3 r_61 sg_68 hw _ ls _ _ hI (lv_sub hl [2, 3, 4, 1] rfl) hP hD hS
              · have hw := hw.2 c_74
                refine lv_aload_n hx hb dL_law_259 rfl (lv_at hl 3 rfl) ?_
                refine zcallSj (As := [.ref so]) (rest := []) ⟨hx, hb, hml, hown, hts⟩ (c_L_told l dC dI kI kA kC so _ _ sg_68 _ hI hw) (va_cwS 1 hts gL_law_L_told rfl rfl rfl (by decide +kernel) ⟨Nat.le_of_ble_eq_true rfl, Nat.le_of_ble_eq_true rfl⟩) hK hP hD hS hA rfl hl.1 rfl (Nat.le_of_ble_eq_true rfl) dL_law_260 hf (fun r_75 w H locs hw hI hP hD hS => ?_)
                refine lv_lload hx hb dL_law_263 (lv_at hl 1 rfl) ?_
                refine W.lcmp hx hb dL_law_265 ?_
                refine lv_if_eq (tgt := 271) hx hb dL_law_266 (by decide) (fun c_76 => ?_) (fun c_76 => ?_)
                · have hw := hw.1 c_76
                  exact k_271 _ _ _ hJ101 hJ119 hJ188 x3 r_61 sg_68 hw _ ls _ _ hI (lv_sub hl [2, 3, 4, 1] rfl) hP hD hS
                · have hw := hw.2 c_76
                  refine lv_iconst (v := (0 : Int32)) hx hb dL_law_269 (by decide) ?_
                  exact hret 270 (0 : Int32) _ _ _ (fun _ => rfl) hw hS dL_law_270
  have hJ101 : ∀ (x2 : Int32) (x3 : Int32) (sg : Sg), Wp_L_law_101 Z x2 x3 sg → ∀ (w : va_W) (ls : Array Slot) (H : Heap) (locs : List Loc), OI kI kA kC so sg w → lv_has ls 7 [(0, .ref b), (1, .ref so), (2, .int x2), (3, .int x3)] → va_P (dC, dI) vwCl w H → va_D A w → va_S A s.heap H locs → W p l e (room_1) s m #[Value.ref b] below meth c H locs cells slots Q (F0 m 101 ls []) := fun x2 x3 sg hv => hv (fun x2 x3 sg => ∀ (w : va_W) (ls : Array Slot) (H : Heap) (locs : List Loc), OI kI kA kC so sg w → lv_has ls 7 [(0, .ref b), (1, .ref so), (2, .int x2), (3, .int x3)] → va_P (dC, dI) vwCl w H → va_D A w → va_S A s.heap H locs → W p l e (room_1) s m #[Value.ref b] below meth c H locs cells slots Q (F0 m 101 ls [])) (fun x2 x3 x4 sg => ∀ (w : va_W) (ls : Array Slot) (H : Heap) (locs : List Loc), OI kI kA kC so sg w → lv_has ls 7 [(0, .ref b), (1, .ref so), (2, .int x2), (3, .int x3), (4, .int x4)] → va_P (dC, dI) vwCl w H → va_D A w → va_S A s.heap H locs → W p l e (room_1) s m #[Value.ref b] below meth c H locs cells slots Q (F0 m 119 ls [])) (fun x3 sg => ∀ (w : va_W) (ls : Array Slot) (H : Heap) (locs : List Loc), OI kI kA kC so sg w → lv_has ls 7 [(0, .ref b), (1, .ref so), (3, .int x3)] → va_P (dC, dI) vwCl w H → va_D A w → va_S A s.heap H locs → W p l e (room_1) s m #[Value.ref b] below meth c H locs cells slots Q (F0 m 188 ls [])) (fun J101 J119 J188 q101 q119 q188 => (key J101 J119 J188 q101 q119 q188).1) (fun J101 J119 J188 q101 q119 q188 => (key J101 J119 J188 q101 q119 q188).2.1) (fun J101 J119 J188 q101 q119 q188 => (key J101 J119 J188 q101 q119 q188).2.2)
  have hJ119 : ∀ (x2 : Int32) (x3 : Int32) (x4 : Int32) (sg : Sg), Wp_L_law_119 Z x2 x3 x4 sg → ∀ (w : va_W) (ls : Array Slot) (H : Heap) (locs : List Loc), OI kI kA kC so sg w → lv_has ls 7 [(0, .ref b), (1, .ref so), (2, .int x2), (3, .int x3), (4, .int x4)] → va_P (dC, dI) vwCl w H → va_D A w → va_S A s.heap H locs → W p l e (room_1) s m #[Value.ref b] below meth c H locs cells slots Q (F0 m 119 ls []) := fun x2 x3 x4 sg hv => hv (fun x2 x3 sg => ∀ (w : va_W) (ls : Array Slot) (H : Heap) (locs : List Loc), OI kI kA kC so sg w → lv_has ls 7 [(0, .ref b), (1, .ref so), (2, .int x2), (3, .int x3)] → va_P (dC, dI) vwCl w H → va_D A w → va_S A s.heap H locs → W p l e (room_1) s m #[Value.ref b] below meth c H locs cells slots Q (F0 m 101 ls [])) (fun x2 x3 x4 sg => ∀ (w : va_W) (ls : Array Slot) (H : Heap) (locs : List Loc), OI kI kA kC so sg w → lv_has ls 7 [(0, .ref b), (1, .ref so), (2, .int x2), (3, .int x3), (4, .int x4)] → va_P (dC, dI) vwCl w H → va_D A w → va_S A s.heap H locs → W p l e (room_1) s m #[Value.ref b] below meth c H locs cells slots Q (F0 m 119 ls [])) (fun x3 sg => ∀ (w : va_W) (ls : Array Slot) (H : Heap) (locs : List Loc), OI kI kA kC so sg w → lv_has ls 7 [(0, .ref b), (1, .ref so), (3, .int x3)] → va_P (dC, dI) vwCl w H → va_D A w → va_S A s.heap H locs → W p l e (room_1) s m #[Value.ref b] below meth c H locs cells slots Q (F0 m 188 ls [])) (fun J101 J119 J188 q101 q119 q188 => (key J101 J119 J188 q101 q119 q188).1) (fun J101 J119 J188 q101 q119 q188 => (key J101 J119 J188 q101 q119 q188).2.1) (fun J101 J119 J188 q101 q119 q188 => (key J101 J119 J188 q101 q119 q188).2.2)
  have hJ188 : ∀ (x3 : Int32) (sg : Sg), Wp_L_law_188 Z x3 sg → ∀ (w : va_W) (ls : Array Slot) (H : Heap) (locs : List Loc), OI kI kA kC so sg w → lv_has ls 7 [(0, .ref b), (1, .ref so), (3, .int x3)] → va_P (dC, dI) vwCl w H → va_D A w → va_S A s.heap H locs → W p l e (room_1) s m #[Value.ref b] below meth c H locs cells slots Q (F0 m 188 ls []) := fun x3 sg hv => hv (fun x2 x3 sg => ∀ (w : va_W) (ls : Array Slot) (H : Heap) (locs : List Loc), OI kI kA kC so sg w → lv_has ls 7 [(0, .ref b), (1, .ref so), (2, .int x2), (3, .int x3)] → va_P (dC, dI) vwCl w H → va_D A w → va_S A s.heap H locs → W p l e (room_1) s m #[Value.ref b] below meth c H locs cells slots Q (F0 m 101 ls [])) (fun x2 x3 x4 sg => ∀ (w : va_W) (ls : Array Slot) (H : Heap) (locs : List Loc), OI kI kA kC so sg w → lv_has ls 7 [(0, .ref b), (1, .ref so), (2, .int x2), (3, .int x3), (4, .int x4)] → va_P (dC, dI) vwCl w H → va_D A w → va_S A s.heap H locs → W p l e (room_1) s m #[Value.ref b] below meth c H locs cells slots Q (F0 m 119 ls [])) (fun x3 sg => ∀ (w : va_W) (ls : Array Slot) (H : Heap) (locs : List Loc), OI kI kA kC so sg w → lv_has ls 7 [(0, .ref b), (1, .ref so), (3, .int x3)] → va_P (dC, dI) vwCl w H → va_D A w → va_S A s.heap H locs → W p l e (room_1) s m #[Value.ref b] below meth c H locs cells slots Q (F0 m 188 ls [])) (fun J101 J119 J188 q101 q119 q188 => (key J101 J119 J188 q101 q119 q188).1) (fun J101 J119 J188 q101 q119 q188 => (key J101 J119 J188 q101 q119 q188).2.1) (fun J101 J119 J188 q101 q119 q188 => (key J101 J119 J188 q101 q119 q188).2.2)
  unfold Wp_L_law at hw
  refine lv_aload_n hx hb dL_law_8 rfl (lv_at hl 1 rfl) ?_
  refine lv_iconst (v := (0 : Int32)) hx hb dL_law_9 (by decide) ?_
  refine k_best ⟨hx, hb, hml, hown, hts⟩ (cwV 1 hts gL_law_X6_best rfl rfl rfl (by decide +kernel) ⟨Nat.le_of_ble_eq_true rfl, Nat.le_of_ble_eq_true rfl⟩) hK hI hP hD hS hA hl.1 (Nat.le_of_ble_eq_true rfl) dL_law_10 hf hw (fun r_1 w H locs hw hI hP hD hS => ?_)
  refine lv_bipush (v := (-2 : Int32)) hx hb dL_law_13 (by decide) ?_
  refine lv_icmp_ne (tgt := 85) hx hb dL_law_15 (by decide) (fun c_2 => ?_) (fun c_2 => ?_)
  · have hw := hw.1 c_2
    refine lv_iconst (v := (0 : Int32)) hx hb dL_law_85 (by decide) ?_
    exact hret 86 (0 : Int32) _ _ _ (fun _ => rfl) hw hS dL_law_86
  · have hw := hw.2 c_2
    refine lv_aload_n hx hb dL_law_18 rfl (lv_at hl 1 rfl) ?_
    refine lv_iconst (v := (0 : Int32)) hx hb dL_law_19 (by decide) ?_
    refine k_calm ⟨hx, hb, hml, hown, hts⟩ (cwV 1 hts gL_law_X6_calm rfl rfl rfl (by decide +kernel) ⟨Nat.le_of_ble_eq_true rfl, Nat.le_of_ble_eq_true rfl⟩) hK hI hP hD hS hA hl.1 (Nat.le_of_ble_eq_true rfl) dL_law_20 hf hw (fun r_3 w H locs hw hI hP hD hS => ?_)
    refine lv_bipush (v := (-2 : Int32)) hx hb dL_law_23 (by decide) ?_
    refine lv_icmp_ne (tgt := 85) hx hb dL_law_25 (by decide) (fun c_4 => ?_) (fun c_4 => ?_)
    · have hw := hw.1 c_4
      refine lv_iconst (v := (0 : Int32)) hx hb dL_law_85 (by decide) ?_
      exact hret 86 (0 : Int32) _ _ _ (fun _ => rfl) hw hS dL_law_86
    · have hw := hw.2 c_4
      refine lv_aload_n hx hb dL_law_28 rfl (lv_at hl 1 rfl) ?_
      refine k_undo ⟨hx, hb, hml, hown, hts⟩ (cwV 0 hts gL_law_X6_undo rfl rfl rfl (by decide +kernel) ⟨Nat.le_of_ble_eq_true rfl, Nat.le_of_ble_eq_true rfl⟩) hK hI hP hD hS hA hl.1 (Nat.le_of_ble_eq_true rfl) dL_law_29 hf hw (fun r_5 sg_6 w H locs hw hI hP hD hS => ?_)
      refine lv_bipush (v := (-2 : Int32)) hx hb dL_law_32 (by decide) ?_
      refine lv_icmp_ne (tgt := 85) hx hb dL_law_34 (by decide) (fun c_7 => ?_) (fun c_7 => ?_)
      · have hw := hw.1 c_7
        refine lv_iconst (v := (0 : Int32)) hx hb dL_law_85 (by decide) ?_
        exact hret 86 (0 : Int32) _ _ _ (fun _ => rfl) hw hS dL_law_86
      · have hw := hw.2 c_7
        refine lv_aload_n hx hb dL_law_37 rfl (lv_at hl 1 rfl) ?_
        refine k_exchange ⟨hx, hb, hml, hown, hts⟩ (cwV 0 hts gL_law_X6_exchange rfl rfl rfl (by decide +kernel) ⟨Nat.le_of_ble_eq_true rfl, Nat.le_of_ble_eq_true rfl⟩) hK hI hP hD hS hA hl.1 (Nat.le_of_ble_eq_true rfl) dL_law_38 hf hw (fun r_8 sg_9 w H locs hw hI hP hD hS => ?_)
        refine lv_bipush (v := (-2 : Int32)) hx hb dL_law_41 (by decide) ?_
        refine lv_icmp_ne (tgt := 85) hx hb dL_law_43 (by decide) (fun c_10 => ?_) (fun c_10 => ?_)
        · have hw := hw.1 c_10
          refine lv_iconst (v := (0 : Int32)) hx hb dL_law_85 (by decide) ?_
          exact hret 86 (0 : Int32) _ _ _ (fun _ => rfl) hw hS dL_law_86
        · have hw := hw.2 c_10
          refine lv_aload_n hx hb dL_law_46 rfl (lv_at hl 1 rfl) ?_
          refine lv_iconst (v := (1 : Int32)) hx hb dL_law_47 (by decide) ?_
          refine k_count ⟨hx, hb, hml, hown, hts⟩ (cwV 1 hts gL_law_X6_count rfl rfl rfl (by decide +kernel) ⟨Nat.le_of_ble_eq_true rfl, Nat.le_of_ble_eq_true rfl⟩) hK hI hP hD hS hA hl.1 (Nat.le_of_ble_eq_true rfl) dL_law_48 hf hw (fun r_11 w H locs hw hI hP hD hS => ?_)
          refine lv_bipush (v := (24 : Int32)) hx hb dL_law_51 (by decide) ?_
          refine lv_icmp_ne (tgt := 85) hx hb dL_law_53 (by decide) (fun c_12 => ?_) (fun c_12 => ?_)
          · have hw := hw.1 c_12
            refine lv_iconst (v := (0 : Int32)) hx hb dL_law_85 (by decide) ?_
            exact hret 86 (0 : Int32) _ _ _ (fun _ => rfl) hw hS dL_law_86
          · have hw := hw.2 c_12
            refine lv_aload_n hx hb dL_law_56 rfl (lv_at hl 1 rfl) ?_
            refine lv_iconst (v := (0 : Int32)) hx hb dL_law_57 (by decide) ?_
            refine k_ring ⟨hx, hb, hml, hown, hts⟩ (cwV 1 hts gL_law_X6_ring rfl rfl rfl (by decide +kernel) ⟨Nat.le_of_ble_eq_true rfl, Nat.le_of_ble_eq_true rfl⟩) hK hI hP hD hS hA hl.1 (Nat.le_of_ble_eq_true rfl) dL_law_58 hf hw (fun r_13 w H locs hw hI hP hD hS => ?_)
            refine lv_bipush (v := (-9 : Int32)) hx hb dL_law_61 (by decide) ?_
            refine lv_icmp_ne (tgt := 85) hx hb dL_law_63 (by decide) (fun c_14 => ?_) (fun c_14 => ?_)
            · have hw := hw.1 c_14
              refine lv_iconst (v := (0 : Int32)) hx hb dL_law_85 (by decide) ?_
              exact hret 86 (0 : Int32) _ _ _ (fun _ => rfl) hw hS dL_law_86
            · have hw := hw.2 c_14
              refine lv_aload_n hx hb dL_law_66 rfl (lv_at hl 1 rfl) ?_
              refine lv_iconst (v := (5 : Int32)) hx hb dL_law_67 (by decide) ?_
              refine lv_iconst (v := (1 : Int32)) hx hb dL_law_68 (by decide) ?_
              refine k_calls ⟨hx, hb, hml, hown, hts⟩ (cwV 2 hts gL_law_X6_calls rfl rfl rfl (by decide +kernel) ⟨Nat.le_of_ble_eq_true rfl, Nat.le_of_ble_eq_true rfl⟩) hK hI hP hD hS hA hl.1 (Nat.le_of_ble_eq_true rfl) dL_law_69 hf hw (fun r_15 w H locs hw hI hP hD hS => ?_)
              refine lv_iconst (v := (-1 : Int32)) hx hb dL_law_72 (by decide) ?_
              refine lv_icmp_ne (tgt := 85) hx hb dL_law_73 (by decide) (fun c_16 => ?_) (fun c_16 => ?_)
              · have hw := hw.1 c_16
                refine lv_iconst (v := (0 : Int32)) hx hb dL_law_85 (by decide) ?_
                exact hret 86 (0 : Int32) _ _ _ (fun _ => rfl) hw hS dL_law_86
              · have hw := hw.2 c_16
                refine lv_aload_n hx hb dL_law_76 rfl (lv_at hl 1 rfl) ?_
                refine lv_iconst (v := (4 : Int32)) hx hb dL_law_77 (by decide) ?_
                refine k_count ⟨hx, hb, hml, hown, hts⟩ (cwV 1 hts gL_law_X6_count rfl rfl rfl (by decide +kernel) ⟨Nat.le_of_ble_eq_true rfl, Nat.le_of_ble_eq_true rfl⟩) hK hI hP hD hS hA hl.1 (Nat.le_of_ble_eq_true rfl) dL_law_78 hf hw (fun r_17 w H locs hw hI hP hD hS => ?_)
                refine lv_iconst (v := (1 : Int32)) hx hb dL_law_81 (by decide) ?_
                refine lv_icmp_eq (tgt := 87) hx hb dL_law_82 (by decide) (fun c_18 => ?_) (fun c_18 => ?_)
                · have hw := hw.1 c_18
                  refine lv_iconst (v := (1 : Int32)) hx hb dL_law_87 (by decide) ?_
                  refine lv_aload_n hx hb dL_law_88 rfl (lv_at hl 0 rfl) ?_
                  refine lv_iconst (v := (0 : Int32)) hx hb dL_law_89 (by decide) ?_
                  obtain ⟨h_20, hw⟩ := hw
                  refine zcallCell (rest := [.int (1 : Int32)]) ⟨hx, hb, hml, hown, hts⟩ (va_cwS 2 hts gL_law_L_cell rfl rfl rfl (by decide +kernel) ⟨Nat.le_of_ble_eq_true rfl, Nat.le_of_ble_eq_true rfl⟩) hX hbl hbA hN h_20 hP hS hA hl.1 (Nat.le_of_ble_eq_true rfl) dL_law_90 hf (fun r_19 H locs hP hS => ?_)
                  have hw := hw r_19
                  refine lv_iconst (v := (4 : Int32)) hx hb dL_law_93 (by decide) ?_
                  refine zcallS0 (As := [.int r_19, .int (4 : Int32)]) (rest := [.int (1 : Int32)]) ⟨hx, hb, hml, hown, hts⟩ (c_L_low l dC dI kI kA kC _ r_19 (4 : Int32) _ hw) (va_cwS 2 hts gL_law_L_low rfl rfl rfl (by decide +kernel) ⟨Nat.le_of_ble_eq_true rfl, Nat.le_of_ble_eq_true rfl⟩) hK hP hD hS hA rfl hl.1 rfl (Nat.le_of_ble_eq_true rfl) dL_law_94 hf (fun r_21 H locs hw hP hD hS => ?_)
                  refine lv_iadd hx hb dL_law_97 ?_
                  refine lv_istore_n (lv' := [(2, .int ((1 : Int32) + r_21)), (0, .ref b), (1, .ref so)]) hx hb dL_law_98 rfl hl (by decide) rfl (fun ls hl => ?_)
                  refine lv_iconst (v := (0 : Int32)) hx hb dL_law_99 (by decide) ?_
                  refine lv_istore_n (lv' := [(3, .int (0 : Int32)), (2, .int ((1 : Int32) + r_21)), (0, .ref b), (1, .ref so)]) hx hb dL_law_100 rfl hl (by decide) rfl (fun ls hl => ?_)
                  exact hJ101 ((1 : Int32) + r_21) (0 : Int32) sg_9 hw _ ls _ _ hI (lv_sub hl [2, 3, 1, 0] rfl) hP hD hS
                · have hw := hw.2 c_18
                  refine lv_iconst (v := (0 : Int32)) hx hb dL_law_85 (by decide) ?_
                  exact hret 86 (0 : Int32) _ _ _ (fun _ => rfl) hw hS dL_law_86
