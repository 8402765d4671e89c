/-! the law: what its start knows of classes and rows; its constructor -/
theorem ztb {w : Cond} (i : Nat) (h : tables_1[i]? = some w) : w ∈ lw_tbl := List.mem_append_right _ (List.mem_of_getElem? h)
set_option maxHeartbeats 4000000 in
theorem law_known {s : State} {b : Nat} (hts : ∀ w ∈ lw_tbl, w.before #[Value.ref b] s = true) : ∃ (dC : Nat → ClassId) (dI : Nat → Nat → Nat) (kI kA kC : ClassId), va_K (dC, dI) vwCl (zty kI kA kC) s := by
  obtain ⟨c0, i0, h0⟩ := u_known (C := RX0) (T := TX0) (N := 3) (n := 3) hts inX0 (hts (.instantiable RX0 3) (ztb 19 (by decide +kernel)))
  obtain ⟨c1, i1, h1⟩ := u_known (C := RX1) (T := TX1) (N := 14) (n := 14) hts inX1 (hts (.instantiable RX1 14) (ztb 118 (by decide +kernel)))
  obtain ⟨c2, i2, h2⟩ := u_known (C := RX2) (T := TX2) (N := 1) (n := 1) hts inX2 (hts (.instantiable RX2 1) (ztb 71 (by decide +kernel)))
  obtain ⟨c3, i3, h3⟩ := u_known (C := RX3) (T := TX3) (N := 2) (n := 2) hts inX3 (hts (.instantiable RX3 2) (ztb 82 (by decide +kernel)))
  obtain ⟨c4, i4, h4⟩ := u_known (C := RX4) (T := TX4) (N := 3) (n := 3) hts inX4 (hts (.instantiable RX4 3) (ztb 88 (by decide +kernel)))
  obtain ⟨c5, i5, h5⟩ := u_known (C := RX5) (T := TX5) (N := 5) (n := 5) hts inX5 (hts (.instantiable RX5 5) (ztb 47 (by decide +kernel)))
  obtain ⟨c6, i6, h6⟩ := u_known (C := RX6) (T := TX6) (N := 8) (n := 8) hts inX6 (hts (.instantiable RX6 8) (ztb 11 (by decide +kernel)))
  obtain ⟨kI, ki, pi, e1, e2, e3⟩ := Cond.arrayClass_spec (hts (.arrayClass .int) (ztb 44 (by decide +kernel)))
  obtain ⟨pa, kA, ka, a1, a2, a3, a4, a5⟩ := arrayOverA_spec (hts (.arrayOver (.array .int)) (ztb 25 (by decide +kernel)))
  obtain ⟨pc, kC, kc, f1, f2, f3, f4, f5⟩ := Cond.arrayOver_spec (hts (.arrayOver (.object "CakeMarks$Cake")) (ztb 45 (by decide +kernel)))
  refine ⟨fun k => match k with | 0 => c0 | 1 => c1 | 2 => c2 | 3 => c3 | 4 => c4 | 5 => c5 | _ => c6, fun k => match k with | 0 => i0 | 1 => i1 | 2 => i2 | 3 => i3 | 4 => i4 | 5 => i5 | _ => i6, kI, kA, kC, fun k q hq => ?_, fun k q hq => ?_⟩
  · match k, hq with
    | 0, hq => cases hq; exact h0
    | 1, hq => cases hq; exact h1
    | 2, hq => cases hq; exact h2
    | 3, hq => cases hq; exact h3
    | 4, hq => cases hq; exact h4
    | 5, hq => cases hq; exact h5
    | 6, hq => cases hq; exact h6
    | k + 7, hq => exact absurd (List.getElem?_eq_some_iff.mp hq).1 (by simp)
  · match k, hq with
    | 0, hq => cases hq; exact ⟨fun n z => ⟨fun k h => (by cases h), ki, e2, pi, e3⟩, e1⟩
    | 1, hq => cases hq; exact ⟨fun n z => ⟨fun k h => (by cases h), ka, a3, pa, a4⟩, a5⟩
    | 2, hq => cases hq; exact ⟨fun n z => ⟨fun k h => (by cases h), kc, f3, pc, f4⟩, kc, pc, f3, f4, f1, f5⟩
    | k + 3, hq => exact absurd (List.getElem?_eq_some_iff.mp hq).1 (by simp)
theorem law_ao {A : Array Value} {U : State} (h : (Cond.arrayOver (.array .int)).before A U = true) : va_Nw (.arrayOver (.array .int)) U := h
set_option maxHeartbeats 4000000 in
theorem law_nest {s : State} {b : Nat} (hts : ∀ w ∈ lw_tbl, w.before #[Value.ref b] s = true) : zN s := ⟨⟨va_Nw.of rfl (hts (.methodLinkNest RX6 26 yX5_init RX6) (ztb 48 (by decide +kernel))), va_Nw.of rfl (hts (.methodLinkNest RX6 33 yX2_init RX6) (ztb 72 (by decide +kernel))), va_Nw.of rfl (hts (.methodLinkNest RX6 40 yX3_init RX6) (ztb 83 (by decide +kernel))), va_Nw.of rfl (hts (.methodLinkNest RX3 11 yX4_init RX6) (ztb 89 (by decide +kernel))), va_Nw.of rfl (hts (.methodLinkNest RX6 47 yX1_init RX6) (ztb 119 (by decide +kernel))), va_Nw.of rfl (hts (.methodLinkNest RX1 39 yX4_init RX6) (ztb 124 (by decide +kernel)))⟩, va_AO.of (hts (.arrayOver (.object "CakeMarks$Cake")) (ztb 45 (by decide +kernel))), law_ao (hts (.arrayOver (.array .int)) (ztb 25 (by decide +kernel)))⟩
section ZC0
variable {p : Program} {l : Launch} {e : Env} {R : Room} {s : State} {m : MethodId} {args : Array Value} {below : List Frame} {meth : Method} {c : Code} {H : Heap} {locs : List Loc} {cells slots : Nat} {Q : State → Prop}
variable {cc bytes : ByteArray} {pc nL maxL index mc ms : Nat} {ls : Array Slot} {rest st : List Value} {dC : Nat → ClassId} {dI : Nat → Nat → Nat} {kI kA kC : ClassId} {A : Nat → Prop} {wc wr : va_W} {H0 : Heap} {Ts wsy : List Cond} {own : String} {y : MethodName} {rm : Room} {b : Nat} {S : Type} {W1 : S → va_W}
/-- a constructor, whose cells stand first -/
theorem zcallC0 {post : S → Prop} (X : CallFix p m c cc nL s args Ts own) (hNs : zN s) (hM : zC l y wsy rm dC dI kI kA kC H.size mc ms [.ref b] wc post W1) (cw : CallB R s args own index y bytes maxL none wsy rm mc ms 0 ∧ y.name = "<init>" ∧ (Cond.instanceMethod y).before args s = true)
    (hK : va_K (dC, dI) vwCl (zty kI kA kC) s) (hP0 : va_P (dC, dI) vwCl (wc ++ wr) H) (hD0 : va_D A (wc ++ wr)) (hS : va_S A H0 H locs) (hA : ∀ q, H0.size ≤ q → A q)
    (hsize : ls.size = nL) (hst : st = .ref b :: rest) (hW : (rest.map fun v => v.category).sum ≤ 8) (hdg : decode cc pc = .ok (.invokespecial index, 3)) (hf : cells + mc ≤ R.cells ∧ slots + ms ≤ R.slots)
    (kk : ∀ (u : S) (H1 : Heap) (locs1 : List Loc), post u → va_P (dC, dI) vwCl (W1 u ++ wr) H1 → va_D A (W1 u ++ wr) → va_S A H0 H1 locs1 → W p l e R s m args below meth c H1 locs1 (cells + mc) (slots + ms) Q (F0 m (pc + 3) ls rest)) :
    W p l e R s m args below meth c H locs cells slots Q (F0 m pc ls st) := by
  have hPc := z_left hP0
  have hDc := z_leftD hD0
  have hFc := z_freeP hD0 hS hA
  refine va_callv (va_runI (As := []) (rest := rest) X hM cw ⟨z_blindC _ _ _, fun U hU hW => ⟨rfl, ⟨by rw [hU], by rw [hU]; exact hPc, va_K.moved hW.alike hK, hDc.weaken (fun _ _ _ _ => trivial)⟩, zN.warm hW hNs⟩⟩ rfl rfl hsize hst (lv_room hW) hdg hf) hS (fun q _ h => hFc q h) hFc (fun u t H1 locs1 ht hvm hw hB hz1 hk1 hS => ?_)
  obtain ⟨hP1, hD1⟩ := hB
  rw [ht] at hP1
  obtain ⟨hPn, hDn⟩ := z_afterP (Wn := fun u => W1 u ++ wr) hP0 hD0 hFc (List.Perm.refl _) hk1 hP1 hD1
  exact kk u H1 locs1 hw hPn hDn hS
end ZC0
def zo (a b c d e : Nat) : Nat → Nat := fun i => match i with | 0 => a | 1 => b | 2 => c | 3 => d | _ => e
def zof (a b c d e : Nat → Nat) : Nat → Nat → Nat := fun i => match i with | 0 => a | 1 => b | 2 => c | 3 => d | _ => e
theorem z_hist (a b c d e : Nat) : va_up (va_up (va_up (va_up (va_up (fun _ => none) 0 (some a)) 1 (some b)) 2 (some c)) 3 (some d)) 4 (some e) = fun i => if i < 5 then some (zo a b c d e i) else none := by
  funext i
  rcases (show i = 0 ∨ i = 1 ∨ i = 2 ∨ i = 3 ∨ i = 4 ∨ 5 ≤ i by omega) with rfl | rfl | rfl | rfl | rfl | h
  · rfl
  · rfl
  · rfl
  · rfl
  · rfl
  · rw [va_up_ne _ _ (by omega), va_up_ne _ _ (by omega), va_up_ne _ _ (by omega), va_up_ne _ _ (by omega), va_up_ne _ _ (by omega), if_neg (by omega)]
set_option maxHeartbeats 4000000 in
set_option maxRecDepth 100000 in
theorem z_start (c0 c1 c2 c3 c4 c5 c6 c7 c8 c9 c10 c11 c12 c13 c14 c15 c16 c17 c18 c19 c20 c21 c22 c23 c24 c25 c26 c27 c28 c29 c30 c31 c32 c33 c34 c35 c36 c37 c38 c39 c40 c41 c42 c43 c44 c45 c46 c47 c48 c49 c50 c51 c52 c53 c54 c55 c56 c57 c58 c59 c60 c61 c62 c63 c64 c65 c66 c67 c68 c69 : Nat × va_E) : ([c0, c1, c2, c3, c4, c5, c6, c7, c8, c9, c10, c11, c12, c13, c14, c15, c16, c17, c18, c19, c20, c21, c22, c23, c24, c25, c26, c27, c28, c29, c30, c31, c32, c33, c34, c35, c36, c37, c38, c39, c40, c41, c42, c43, c44, c45, c46, c47, c48, c49, c50, c51, c52, c53, c54, c55, c56, c57, c58, c59, c60, c61, c62, c63, c64, c65, c66, c67, c68, c69] ++ ([] : va_W)).Perm [c0, c1, c2, c3, c4, c5, c6, c7, c8, c35, c36, c37, c38, c39, c40, c41, c42, c43, c44, c45, c46, c47, c48, c49, c50, c51, c52, c53, c54, c55, c56, c57, c58, c59, c60, c61, c62, c63, c64, c65, c66, c67, c68, c69, c9, c10, c11, c12, c13, c14, c17, c15, c16, c18, c19, c22, c23, c24, c25, c26, c27, c28, c29, c30, c31, c32, c33, c34, c20, c21] :=
  z_lp (L := [c0, c1, c2, c3, c4, c5, c6, c7, c8, c9, c10, c11, c12, c13, c14, c15, c16, c17, c18, c19, c20, c21, c22, c23, c24, c25, c26, c27, c28, c29, c30, c31, c32, c33, c34, c35, c36, c37, c38, c39, c40, c41, c42, c43, c44, c45, c46, c47, c48, c49, c50, c51, c52, c53, c54, c55, c56, c57, c58, c59, c60, c61, c62, c63, c64, c65, c66, c67, c68, c69]) (L' := [c0, c1, c2, c3, c4, c5, c6, c7, c8, c35, c36, c37, c38, c39, c40, c41, c42, c43, c44, c45, c46, c47, c48, c49, c50, c51, c52, c53, c54, c55, c56, c57, c58, c59, c60, c61, c62, c63, c64, c65, c66, c67, c68, c69, c9, c10, c11, c12, c13, c14, c17, c15, c16, c18, c19, c22, c23, c24, c25, c26, c27, c28, c29, c30, c31, c32, c33, c34, c20, c21]) [0, 1, 2, 3, 4, 5, 6, 7, 8, 35, 36, 37, 38, 39, 40, 41, 42, 43, 44, 45, 46, 47, 48, 49, 50, 51, 52, 53, 54, 55, 56, 57, 58, 59, 60, 61, 62, 63, 64, 65, 66, 67, 68, 69, 9, 10, 11, 12, 13, 14, 17, 15, 16, 18, 19, 22, 23, 24, 25, 26, 27, 28, 29, 30, 31, 32, 33, 34, 20, 21] 70 rfl (by decide +kernel) rfl
