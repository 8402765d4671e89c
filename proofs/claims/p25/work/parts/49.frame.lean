/-! worlds in chunks: the frame rule by permutations of opaque chunks -/
theorem va_P_mem {D : va_G} {cl : List vw_C} {ws : va_W} {H : Heap} (h : va_P D cl ws H) : ∀ q ∈ ws, va_at D cl q H := fun q hq => by
  obtain ⟨i, hi⟩ := List.mem_iff_getElem?.mp hq
  exact h i q hi
theorem va_P_perm {D : va_G} {cl : List vw_C} {ws ws' : va_W} {H : Heap} (hp : ws.Perm ws') (h : va_P D cl ws H) : va_P D cl ws' H := fun k q hk => va_P_mem h q (hp.mem_iff.mpr (List.mem_of_getElem? hk))
theorem va_D_pw {A : Nat → Prop} {ws : va_W} : va_D A ws ↔ ws.Pairwise (fun p q => p.1 ≠ q.1) ∧ ∀ q ∈ ws, A q.1 := by
  refine ⟨fun h => ⟨List.pairwise_iff_getElem.mpr (fun i j hi hj hij e => ?_), fun q hq => ?_⟩, fun h => ⟨fun i j p q hi hj e => ?_, fun k q hk => h.2 q (List.mem_of_getElem? hk)⟩⟩
  · have := h.1 i j _ _ (List.getElem?_eq_getElem hi) (List.getElem?_eq_getElem hj) e
    omega
  · obtain ⟨i, hi⟩ := List.mem_iff_getElem?.mp hq
    exact h.2 i q hi
  · obtain ⟨hi', ei⟩ := List.getElem?_eq_some_iff.mp hi
    obtain ⟨hj', ej⟩ := List.getElem?_eq_some_iff.mp hj
    rcases Nat.lt_trichotomy i j with h1 | h1 | h1
    · exact absurd e (by rw [← ei, ← ej]; exact List.pairwise_iff_getElem.mp h.1 i j hi' hj' h1)
    · exact h1
    · exact absurd e.symm (by rw [← ei, ← ej]; exact List.pairwise_iff_getElem.mp h.1 j i hj' hi' h1)
theorem va_D_perm {A : Nat → Prop} {ws ws' : va_W} (hp : ws.Perm ws') (h : va_D A ws) : va_D A ws' := by
  obtain ⟨h1, h2⟩ := va_D_pw.mp h
  exact va_D_pw.mpr ⟨(hp.pairwise_iff (fun {x y} (q : x.1 ≠ y.1) => fun e => q e.symm)).mp h1, fun q hq => h2 q (hp.mem_iff.mpr hq)⟩
def z_cat : List va_W → va_W
  | [] => []
  | [a] => a
  | a :: b :: l => a ++ z_cat (b :: l)
theorem z_cat_flat : ∀ L : List va_W, z_cat L = L.flatten
  | [] => rfl
  | [a] => by simp [z_cat]
  | a :: b :: l => by simp [z_cat, z_cat_flat (b :: l)]
theorem z_rng {α : Type} (L : List α) : (List.range L.length).map (fun i => L[i]?) = L.map some := by
  refine List.ext_getElem? (fun i => ?_)
  rw [List.getElem?_map, List.getElem?_map]
  by_cases h : i < L.length
  · rw [List.getElem?_range h, List.getElem?_eq_getElem h]
    simp [h]
  · rw [List.getElem?_eq_none (by simpa using Nat.not_lt.mp h), List.getElem?_eq_none (Nat.not_lt.mp h)]
    rfl
theorem z_lp {α : Type} {L L' : List α} (is : List Nat) (n : Nat) (hl : L.length = n) (hn : is.isPerm (List.range n) = true) (h : is.map (fun i => L[i]?) = L'.map some) : L.Perm L' := by
  subst hl
  have h1 := (List.isPerm_iff.mp hn).map (fun i => L[i]?)
  rw [h, z_rng] at h1
  have h2 := h1.filterMap id
  have e : ∀ M : List α, (M.map some).filterMap id = M := fun M => by simp
  rw [e, e] at h2
  exact h2.symm
theorem z_perm3 {L Lc Lr : List va_W} (is : List Nat) (n : Nat) (hl : L.length = n) (hn : is.isPerm (List.range n) = true) (h : is.map (fun i => L[i]?) = (Lc ++ Lr).map some) : (z_cat L).Perm (z_cat Lc ++ z_cat Lr) := by
  have h1 := (z_lp is n hl hn h).flatten
  rw [List.flatten_append] at h1
  rw [z_cat_flat, z_cat_flat, z_cat_flat]
  exact h1
section ZPERM
variable {p : Program} {l : Launch} {e : Env} {R : Room} {s : State} {m : MethodId} {args : Array Value} {below : List Frame} {meth : Method} {c : Code} {H : Heap} {locs : List Loc} {cells slots : Nat} {Q : State → Prop}
variable {cc bytes : ByteArray} {pc nL maxL index n ci q0 mc ms : Nat} {ls : Array Slot} {rest As st : List Value} {dC : Nat → ClassId} {dI : Nat → Nat → Nat} {kI kA kC : ClassId} {A : Nat → Prop} {ws wc wr : va_W} {H0 : Heap} {Ts wsy : List Cond} {own C : String} {y : MethodName} {ret : Option FieldType} {rm : Room} {b : Nat} {fs : List Value} {S : Type} {W1 Wn : S → va_W}
theorem z_left {ws wr : va_W} (hP : va_P (dC, dI) vwCl (ws ++ wr) H) : va_P (dC, dI) vwCl ws H := fun k q hk => va_P_mem hP q (List.mem_append_left _ (List.mem_of_getElem? hk))
theorem z_right {ws wr : va_W} (hP : va_P (dC, dI) vwCl (ws ++ wr) H) : va_P (dC, dI) vwCl wr H := fun k q hk => va_P_mem hP q (List.mem_append_right _ (List.mem_of_getElem? hk))
theorem z_leftD {ws wr : va_W} (hD : va_D A (ws ++ wr)) : va_D A ws := by
  obtain ⟨h1, h2⟩ := va_D_pw.mp hD
  exact va_D_pw.mpr ⟨(List.pairwise_append.mp h1).1, fun q hq => h2 q (List.mem_append_left _ hq)⟩
theorem z_rightD {ws wr : va_W} (hD : va_D A (ws ++ wr)) : va_D A wr := by
  obtain ⟨h1, h2⟩ := va_D_pw.mp hD
  exact va_D_pw.mpr ⟨(List.pairwise_append.mp h1).2.1, fun q hq => h2 q (List.mem_append_right _ hq)⟩
theorem z_afterP {H1 : Heap} {u : S} (hP : va_P (dC, dI) vwCl (wc ++ wr) H) (hD : va_D A (wc ++ wr)) (hFc : ∀ q, va_A wc H.size q → A q) (hN : (Wn u).Perm (W1 u ++ wr))
    (hk1 : ∀ q : Nat, q < H.size → ¬ va_A wc H.size q → H1[q]? = H[q]?) (hP1 : va_P (dC, dI) vwCl (W1 u) H1) (hD1 : va_D (va_A wc H.size) (W1 u)) : va_P (dC, dI) vwCl (Wn u) H1 ∧ va_D A (Wn u) := by
  have hPr := z_right hP
  have hDr := z_rightD hD
  have hpw := (List.pairwise_append.mp (va_D_pw.mp hD).1).2.2
  have hno : ∀ (k : Nat) (q : Nat × va_E), wr[k]? = some q → q.1 < H.size ∧ ¬ va_A wc H.size q.1 := fun k q hk => by
    have hl := (hPr k q hk).lt
    refine ⟨hl, fun h => ?_⟩
    rcases h with ⟨i, e, hi⟩ | h
    · exact hpw (q.1, e) (List.mem_of_getElem? hi) q (List.mem_of_getElem? hk) rfl
    · exact absurd h (Nat.not_le.mpr hl)
  have hPr1 : va_P (dC, dI) vwCl wr H1 := hPr.kept (fun k q hk => hk1 q.1 (hno k q hk).1 (hno k q hk).2)
  have hD1' : va_D A (W1 u) := hD1.weaken (fun k q _ h => hFc q.1 h)
  refine ⟨va_P_perm hN.symm (va_P.app hP1 hPr1), va_D_perm hN.symm (va_D.app hD1' hDr (fun i j x q hi hj exq => ?_))⟩
  exact (hno j q hj).2 (by rw [← exq]; exact hD1.2 i x hi)
theorem z_freeP {A0 : Nat → Prop} {wc wr : va_W} {H0 H : Heap} {locs : List Loc} (hD : va_D A0 (wc ++ wr)) (hS : va_S A0 H0 H locs) (hA : ∀ q, H0.size ≤ q → A0 q) : ∀ q, va_A wc H.size q → A0 q := by
  intro q h
  rcases h with ⟨k, e, h⟩ | h
  · exact (va_D_pw.mp hD).2 (q, e) (List.mem_append_left _ (List.mem_of_getElem? h))
  · exact hA q (Nat.le_trans hS.1 h)
/-- a call of a method of an object, that answers an int: the world behind it by a permutation -/
theorem zcallP {post : Int32 → S → Prop} (X : CallFix p m c cc nL s args Ts own) (hM : zI l y wsy rm dC dI kI kA kC H.size 0 0 (.ref b :: As) wc post W1) (cw : CallW R s args own C index y bytes maxL ret wsy rm 0 0 n)
    (hK : va_K (dC, dI) vwCl (zty kI kA kC) s) (hP : va_P (dC, dI) vwCl ws H) (hD : va_D A ws) (hS : va_S A H0 H locs) (hA : ∀ q, H0.size ≤ q → A q)
    (hq : ws.Perm (wc ++ wr)) (hN : ∀ u, (Wn u).Perm (W1 u ++ wr))
    {qc : vw_C} (hc : vwCl[ci]? = some qc) (hqc : qc.1 = C) (he : wc[q0]? = some (b, .inr (ci, fs))) (hn : As.length = n) (hsize : ls.size = nL) (hst : st = As.reverse ++ .ref b :: rest) (hW : (rest.map fun v => v.category).sum ≤ 8) (hdg : decode cc pc = .ok (.invokevirtual index, 3)) (hf : cells ≤ R.cells ∧ slots ≤ R.slots)
    (kk : ∀ (r : Int32) (u : S) (H1 : Heap) (locs1 : List Loc), post r u → va_P (dC, dI) vwCl (Wn u) H1 → va_D A (Wn u) → va_S A H0 H1 locs1 → W p l e R s m args below meth c H1 locs1 cells slots Q (F0 m (pc + 3) ls (.int r :: rest))) :
    W p l e R s m args below meth c H locs cells slots Q (F0 m pc ls st) := by
  subst hqc
  have hP0 := va_P_perm hq hP
  have hD0 := va_D_perm hq hD
  have hPc := z_left hP0
  have hDc := z_leftD hD0
  have hFc := z_freeP hD0 hS hA
  refine va_calli (va_runV (As := As) (rest := rest) X hM cw ⟨z_blind _ _ _, va_recv hK hPc hc he, fun U hU hW => ⟨rfl, by rw [hU], by rw [hU]; exact hPc, va_K.moved hW.alike hK, hDc.weaken (fun _ _ _ _ => trivial)⟩⟩ rfl hn hsize hst (lv_room hW) hdg hf) hS (fun q _ h => hFc q h) hFc (fun r u t H1 locs1 ht hvm hw hB hz1 hk1 hS => ?_)
  obtain ⟨hP1, hD1⟩ := hB
  rw [ht] at hP1
  obtain ⟨hPn, hDn⟩ := z_afterP (Wn := Wn) hP0 hD0 hFc (hN u) hk1 hP1 hD1
  exact kk r u H1 locs1 hw hPn hDn hS
end ZPERM
