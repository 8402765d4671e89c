/-! the law: a turn of its loop, from the switch -/
section TURN
variable {p : Program} {l : Launch} {e : Env} {s : State} {m : MethodId} {below : List Frame} {meth : Method} {c : Code} {dC : Nat → ClassId} {dI : Nat → Nat → Nat} {kI kA kC : ClassId} {so uo b N cells slots : Nat} {sx : Nat → Int32} {W0 : va_W} {H : Heap} {locs : List Loc} {ls : Array Slot} {x3 : Int32} {Q : State → Prop}
set_option maxHeartbeats 4000000 in
set_option maxRecDepth 100000 in
theorem law_turn (v : Int32) (hx : p.tables.exec = Jvm.exec) (hb : c.code = cL_law) (hml : c.maxLocals = 4) (hown : s.vm.findClass RL = some m.cls) (hts : ∀ w ∈ wsL_law, w.before #[Value.ref b] s = true) (hX : va_X b N sx s s.heap) (hbl : b < s.heap.size) (hK : va_K (dC, dI) vwCl (zty kI kA kC) s) (hf : cells ≤ room_1.cells ∧ slots ≤ room_1.slots) (hI : LInv kI kA kC so uo W0) (hP : va_P (dC, dI) vwCl W0 H) (hD : va_D (fun q : Nat => s.heap.size ≤ q) W0) (hS : va_S (fun q : Nat => s.heap.size ≤ q) s.heap H locs) (hl : lv_has ls 4 [(0, .ref b), (1, .ref so), (2, .ref uo), (3, .int x3)]) (hi1 : vp_in (x3 + 1) N) (hi2 : vp_in (x3 + 2) N) (hi3 : vp_in (x3 + 3) N) (hi4 : vp_in (x3 + 4) N)
    (next : ∀ W1 H1 locs1, LInv kI kA kC so uo W1 → va_P (dC, dI) vwCl W1 H1 → va_D (fun q : Nat => s.heap.size ≤ q) W1 → va_S (fun q : Nat => s.heap.size ≤ q) s.heap H1 locs1 → W p l e room_1 s m #[Value.ref b] below meth c H1 locs1 cells slots Q (F0 m 752 ls [])) : W p l e room_1 s m #[Value.ref b] below meth c H locs cells slots Q (F0 m 32 ls [.int v]) := by
  rcases z_sw 21 v with cv | ⟨k, hk, cv⟩
  · refine lv_tableOut (tgt := 752) hx hb dL_law_32 cv (by decide) ?_
    exact next _ H locs hI hP hD hS
  · rcases (show k = 0 ∨ k = 1 ∨ k = 2 ∨ k = 3 ∨ k = 4 ∨ k = 5 ∨ k = 6 ∨ k = 7 ∨ k = 8 ∨ k = 9 ∨ k = 10 ∨ k = 11 ∨ k = 12 ∨ k = 13 ∨ k = 14 ∨ k = 15 ∨ k = 16 ∨ k = 17 ∨ k = 18 ∨ k = 19 ∨ k = 20 ∨ k = 21 by omega) with rfl | rfl | rfl | rfl | rfl | rfl | rfl | rfl | rfl | rfl | rfl | rfl | rfl | rfl | rfl | rfl | rfl | rfl | rfl | rfl | rfl | rfl
    · have cv : v = (0 : Int32) := cv
      refine lv_tableIn (off := 104) (tgt := 136) hx hb dL_law_32 (by rw [cv]; decide) (by rw [cv]; decide) (by rw [cv]; decide) (by decide) ?_
      exact law_addGuest hx hb hml hown hts hX hbl hK hf hI hP hD hS hl hi1 hi2 hi3 hi4 next
    · have cv : v = (1 : Int32) := cv
      refine lv_tableIn (off := 117) (tgt := 149) hx hb dL_law_32 (by rw [cv]; decide) (by rw [cv]; decide) (by rw [cv]; decide) (by decide) ?_
      exact law_setValue hx hb hml hown hts hX hbl hK hf hI hP hD hS hl hi1 hi2 hi3 hi4 next
    · have cv : v = (2 : Int32) := cv
      refine lv_tableIn (off := 170) (tgt := 202) hx hb dL_law_32 (by rw [cv]; decide) (by rw [cv]; decide) (by rw [cv]; decide) (by decide) ?_
      exact law_append hx hb hml hown hts hX hbl hK hf hI hP hD hS hl hi1 hi2 hi3 hi4 next
    · have cv : v = (3 : Int32) := cv
      refine lv_tableIn (off := 193) (tgt := 225) hx hb dL_law_32 (by rw [cv]; decide) (by rw [cv]; decide) (by rw [cv]; decide) (by decide) ?_
      exact law_clearText hx hb hml hown hts hX hbl hK hf hI hP hD hS hl hi1 hi2 hi3 hi4 next
    · have cv : v = (4 : Int32) := cv
      refine lv_tableIn (off := 206) (tgt := 238) hx hb dL_law_32 (by rw [cv]; decide) (by rw [cv]; decide) (by rw [cv]; decide) (by decide) ?_
      exact law_read hx hb hml hown hts hX hbl hK hf hI hP hD hS hl hi1 hi2 hi3 hi4 next
    · have cv : v = (5 : Int32) := cv
      refine lv_tableIn (off := 229) (tgt := 261) hx hb dL_law_32 (by rw [cv]; decide) (by rw [cv]; decide) (by rw [cv]; decide) (by decide) ?_
      exact law_give hx hb hml hown hts hX hbl hK hf hI hP hD hS hl hi1 hi2 hi3 hi4 next
    · have cv : v = (6 : Int32) := cv
      refine lv_tableIn (off := 272) (tgt := 304) hx hb dL_law_32 (by rw [cv]; decide) (by rw [cv]; decide) (by rw [cv]; decide) (by decide) ?_
      exact law_putBack hx hb hml hown hts hX hbl hK hf hI hP hD hS hl hi1 hi2 hi3 hi4 next
    · have cv : v = (7 : Int32) := cv
      refine lv_tableIn (off := 305) (tgt := 337) hx hb dL_law_32 (by rw [cv]; decide) (by rw [cv]; decide) (by rw [cv]; decide) (by decide) ?_
      exact law_move hx hb hml hown hts hX hbl hK hf hI hP hD hS hl hi1 hi2 hi3 hi4 next
    · have cv : v = (8 : Int32) := cv
      refine lv_tableIn (off := 338) (tgt := 370) hx hb dL_law_32 (by rw [cv]; decide) (by rw [cv]; decide) (by rw [cv]; decide) (by decide) ?_
      exact law_cut hx hb hml hown hts hX hbl hK hf hI hP hD hS hl hi1 hi2 hi3 hi4 next
    · have cv : v = (9 : Int32) := cv
      refine lv_tableIn (off := 391) (tgt := 423) hx hb dL_law_32 (by rw [cv]; decide) (by rw [cv]; decide) (by rw [cv]; decide) (by decide) ?_
      exact law_trim hx hb hml hown hts hX hbl hK hf hI hP hD hS hl hi1 hi2 hi3 hi4 next
    · have cv : v = (10 : Int32) := cv
      refine lv_tableIn (off := 424) (tgt := 456) hx hb dL_law_32 (by rw [cv]; decide) (by rw [cv]; decide) (by rw [cv]; decide) (by decide) ?_
      exact law_exchange hx hb hml hown hts hX hbl hK hf hI hP hD hS hl hi1 hi2 hi3 hi4 next
    · have cv : v = (11 : Int32) := cv
      refine lv_tableIn (off := 437) (tgt := 469) hx hb dL_law_32 (by rw [cv]; decide) (by rw [cv]; decide) (by rw [cv]; decide) (by decide) ?_
      exact law_undo hx hb hml hown hts hX hbl hK hf hI hP hD hS hl hi1 hi2 hi3 hi4 next
    · have cv : v = (12 : Int32) := cv
      refine lv_tableIn (off := 450) (tgt := 482) hx hb dL_law_32 (by rw [cv]; decide) (by rw [cv]; decide) (by rw [cv]; decide) (by decide) ?_
      exact law_count hx hb hml hown hts hX hbl hK hf hI hP hD hS hl hi1 hi2 hi3 hi4 next
    · have cv : v = (13 : Int32) := cv
      refine lv_tableIn (off := 473) (tgt := 505) hx hb dL_law_32 (by rw [cv]; decide) (by rw [cv]; decide) (by rw [cv]; decide) (by decide) ?_
      exact law_guest hx hb hml hown hts hX hbl hK hf hI hP hD hS hl hi1 hi2 hi3 hi4 next
    · have cv : v = (14 : Int32) := cv
      refine lv_tableIn (off := 506) (tgt := 538) hx hb dL_law_32 (by rw [cv]; decide) (by rw [cv]; decide) (by rw [cv]; decide) (by decide) ?_
      exact law_crumb hx hb hml hown hts hX hbl hK hf hI hP hD hS hl hi1 hi2 hi3 hi4 next
    · have cv : v = (15 : Int32) := cv
      refine lv_tableIn (off := 529) (tgt := 561) hx hb dL_law_32 (by rw [cv]; decide) (by rw [cv]; decide) (by rw [cv]; decide) (by decide) ?_
      exact law_value hx hb hml hown hts hX hbl hK hf hI hP hD hS hl hi1 hi2 hi3 hi4 next
    · have cv : v = (16 : Int32) := cv
      refine lv_tableIn (off := 562) (tgt := 594) hx hb dL_law_32 (by rw [cv]; decide) (by rw [cv]; decide) (by rw [cv]; decide) (by decide) ?_
      exact law_envy hx hb hml hown hts hX hbl hK hf hI hP hD hS hl hi1 hi2 hi3 hi4 next
    · have cv : v = (17 : Int32) := cv
      refine lv_tableIn (off := 595) (tgt := 627) hx hb dL_law_32 (by rw [cv]; decide) (by rw [cv]; decide) (by rw [cv]; decide) (by decide) ?_
      exact law_ring hx hb hml hown hts hX hbl hK hf hI hP hD hS hl hi1 hi2 hi3 hi4 next
    · have cv : v = (18 : Int32) := cv
      refine lv_tableIn (off := 618) (tgt := 650) hx hb dL_law_32 (by rw [cv]; decide) (by rw [cv]; decide) (by rw [cv]; decide) (by decide) ?_
      exact law_middle hx hb hml hown hts hX hbl hK hf hI hP hD hS hl hi1 hi2 hi3 hi4 next
    · have cv : v = (19 : Int32) := cv
      refine lv_tableIn (off := 641) (tgt := 673) hx hb dL_law_32 (by rw [cv]; decide) (by rw [cv]; decide) (by rw [cv]; decide) (by decide) ?_
      exact law_best hx hb hml hown hts hX hbl hK hf hI hP hD hS hl hi1 hi2 hi3 hi4 next
    · have cv : v = (20 : Int32) := cv
      refine lv_tableIn (off := 664) (tgt := 696) hx hb dL_law_32 (by rw [cv]; decide) (by rw [cv]; decide) (by rw [cv]; decide) (by decide) ?_
      exact law_calm hx hb hml hown hts hX hbl hK hf hI hP hD hS hl hi1 hi2 hi3 hi4 next
    · have cv : v = (21 : Int32) := cv
      refine lv_tableIn (off := 687) (tgt := 719) hx hb dL_law_32 (by rw [cv]; decide) (by rw [cv]; decide) (by rw [cv]; decide) (by decide) ?_
      exact law_calls hx hb hml hown hts hX hbl hK hf hI hP hD hS hl hi1 hi2 hi3 hi4 next
theorem z_gap {L i : Nat} (hL : L ≤ 2560) (hi : i ≤ L) (h : ¬ (Int32.ofNat L - 5 < nI i)) : i + 5 ≤ L := by
  by_cases h5 : 5 ≤ L
  · obtain ⟨j, rfl⟩ : ∃ j, L = j + 5 := ⟨L - 5, by omega⟩
    have e : Int32.ofNat (j + 5) - 5 = nI j := by
      show nI (j + 5) - 5 = nI j
      rw [← nI_add]
      exact Int32.add_sub_cancel (nI j) 5
    rw [e] at h
    rcases Nat.lt_or_ge j i with q | q
    · exact absurd (nI_lt q (by omega)) h
    · omega
  · have hd : ∀ L, L < 5 → ∀ i, i < 5 → (Int32.ofNat L - 5 < Int32.ofNat i) := by decide
    exact absurd (hd L (by omega) i (by omega)) h
end TURN
