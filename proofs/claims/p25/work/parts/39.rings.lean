/-! the ring that is found, and the pieces that go round (rows of whole) -/
theorem rgA_mem {E : Nat → Nat → Bool} {n : Nat} {l : List Nat} : ∀ d s, s + d ≤ n + 1 → rgA E n d s = some l → ∃ s', s ≤ s' ∧ s' ≤ n ∧ l ∈ Lr n s'
  | 0, _, _, h => by cases h
  | d + 1, s, hs, h => by
    unfold rgA at h
    split at h
    · rename_i l' e
      cases h
      exact ⟨s, Nat.le_refl s, by omega, List.mem_of_find?_eq_some e⟩
    · obtain ⟨s', h1, h2, h3⟩ := rgA_mem d (s + 1) (by omega) h
      exact ⟨s', by omega, h2, h3⟩
theorem ringA_mem {E : Nat → Nat → Bool} {n : Nat} {l : List Nat} (h : ringA E n = some l) : ∃ s, 2 ≤ s ∧ s ≤ n ∧ l ∈ Lr n s := by
  by_cases hn : n = 0
  · subst hn; cases h
  · exact rgA_mem (n - 1) 2 (by omega) h
theorem ringA_len {E : Nat → Nat → Bool} {n : Nat} {l : List Nat} (hn : n ≤ 4) (h : ringA E n = some l) : 2 ≤ l.length ∧ l.length ≤ n ∧ ∀ i, i < l.length → l.getD i 0 < n := by
  obtain ⟨s, h1, h2, h3⟩ := ringA_mem h
  have hl := chn_rows n s _ (Lr_chn n (by omega) s (by omega) h1 h2).1 l h3
  have hlt := List.all_eq_true.mp (Lr_lt n (by omega) s (by omega) h1 h2) l h3
  exact ⟨by omega, by omega, fun i hi => all_getD hlt hi⟩
def psr (l : List Nat) (x : Nat) : Nat → Nat → Nat
  | 0, i => i
  | d + 1, i => if l.getD i 0 + 1 = x then i else psr l x d (i + 1)
/-- the new owner of a crumb of x, the ring l given -/
def xo (l : List Nat) (x : Nat) : Nat := if l.length ≤ psr l x l.length 0 then x else if psr l x l.length 0 = 0 then l.getD (l.length - 1) 0 + 1 else l.getD (psr l x l.length 0 - 1) 0 + 1
theorem psr_le (l : List Nat) (x : Nat) : ∀ d i, psr l x d i ≤ i + d
  | 0, i => Nat.le_refl i
  | d + 1, i => by
    unfold psr
    split
    · omega
    · have := psr_le l x d (i + 1)
      omega
theorem xo_ok {n : Nat} {l : List Nat} (h : ∀ i, i < l.length → l.getD i 0 < n) {x : Nat} (hx : x ≤ n) : xo l x ≤ n := by
  unfold xo
  split
  · exact hx
  · split
    · have := h (l.length - 1) (by omega)
      omega
    · have := h (psr l x l.length 0 - 1) (by omega)
      omega
theorem w_placeOf {rT : Nat → Int32} {l : List Nat} {n x : Nat} {Z : Int32 → Prop} (hn : n ≤ 4) (h4 : l.length ≤ 4) (hl : rR l rT) (hln : ∀ i, i < l.length → l.getD i 0 < n) (hx : x ≤ n) (hz : Z (nI (psr l x l.length 0))) : Wp_X4_placeOf rT (nI l.length) (oI x) Z := by
  have key : ∀ d i, i + d = l.length → Z (nI (psr l x d i)) → Wp_X4_placeOf_2 rT (nI l.length) (oI x) Z (nI i) := by
    intro d
    induction d with
    | zero =>
      intro i hid hz
      refine F_X4_placeOf_2 _ _ _ _ _ ?_
      have e : i = l.length := by omega
      subst e
      exact pk_le l.length l.length (fun _ => hz) (fun q => absurd q (by omega))
    | succ d ih =>
      intro i hid hz
      refine F_X4_placeOf_2 _ _ _ _ _ ?_
      refine pk_le l.length i (fun q => absurd q (by omega)) (fun _ => ⟨q_in (by omega), ?_⟩)
      have a1 := hln i (by omega)
      rw [q_cl i, hl i (by omega), nI_1]
      unfold psr at hz
      refine po_ne (l.getD i 0 + 1) x (fun q => ?_) (fun q => ?_) rfl rfl
      · rw [if_neg q] at hz
        exact ih (i + 1) (by omega) hz
      · rw [if_pos q] at hz
        exact hz
  exact key l.length 0 (by omega) hz
theorem w_passPieces {cw rT : Nat → Int32} {l : List Nat} {o : Nat → Nat} {n : Nat} {Z : (Nat → Int32) → Prop} (hn : n ≤ 4) (h1 : 1 ≤ l.length) (h4 : l.length ≤ 4) (hl : rR l rT) (hln : ∀ i, i < l.length → l.getD i 0 < n) (hok : okO n o) (hW : rW o cw) (hz : ∀ cw', rW (fun c => xo l (o c)) cw' → Z cw') : Wp_X0_passPieces cw rT (nI l.length) Z := by
  have key : ∀ d c cw', c + d = 24 → (∀ j, j < c → cw' j = oI (xo l (o j))) → (∀ j, c ≤ j → j < 24 → cw' j = oI (o j)) → Wp_X0_passPieces_2 rT (nI l.length) Z (nI c) cw' := by
    intro d
    induction d with
    | zero =>
      intro c cw' hcd hb ha
      refine F_X0_passPieces_2 _ _ _ _ _ ?_
      exact pk_le 24 c (fun _ => hz cw' (fun j hj => hb j (by omega))) (fun q => absurd q (by omega))
    | succ d ih =>
      intro c cw' hcd hb ha
      refine F_X0_passPieces_2 _ _ _ _ _ ?_
      have hc : c < 24 := by omega
      have h1c := hok c hc
      have hps := psr_le l (o c) l.length 0
      refine pk_le 24 c (fun q => absurd q (by omega)) (fun _ => ⟨q_in (by omega), ?_⟩)
      rw [q_cl c, ha c (Nat.le_refl c) hc]
      refine w_placeOf hn h4 hl hln h1c ?_
      rw [nI_1]
      have step : ∀ x, x = oI (xo l (o c)) → Wp_X0_passPieces_2 rT (nI l.length) Z (nI (c + 1)) (upd cw' c x) := fun x hx => by
        refine ih (c + 1) _ (by omega) (fun j hj => ?_) (fun j j1 j2 => ?_)
        · by_cases e : j = c
          · subst e; rw [pk_us]; exact hx
          · rw [pk_un (by omega)]; exact hb j (by omega)
        · rw [pk_un (by omega)]; exact ha j (by omega) j2
      refine pk_le l.length _ (fun q => ?_) (fun q => ?_)
      · refine ih (c + 1) cw' (by omega) (fun j hj => ?_) (fun j j1 j2 => ha j (by omega) j2)
        by_cases e : j = c
        · subst e
          rw [ha j (Nat.le_refl j) hc]
          unfold xo
          rw [if_pos q]
        · exact hb j (by omega)
      · have a1 := hln (l.length - 1) (by omega)
        refine pq_ne _ 0 (fun q2 => ?_) (fun q2 => ?_)
        · have e1 : nI (psr l (o c) l.length 0) - 1 = nI (psr l (o c) l.length 0 - 1) := pk_sub (b := 1) (by omega)
          rw [e1, q_cl _ (by omega), hl _ (by omega)]
          refine ⟨q_in (by omega), step _ ?_⟩
          unfold xo
          rw [if_neg (by omega), if_neg q2]
          rfl
        · have e1 : nI l.length - 1 = nI (l.length - 1) := pk_sub (b := 1) (by omega)
          rw [e1, q_cl _ (by omega), hl _ (by omega)]
          refine ⟨q_in (by omega), step _ ?_⟩
          unfold xo
          rw [if_neg (by omega), if_pos q2]
          rfl
  exact key 24 0 cw (by omega) (fun j hj => absurd hj (by omega)) (fun j _ hj => hW j hj)
