/-! divisions, the reference: it weighs a row -/
theorem poorA_d0 {v : Nat → Nat → Nat} {c l : List Nat} {F : FS} (hd : F.2.1 = 0) : ∀ d k, poorA v c F l d k = false
  | 0, _ => rfl
  | d + 1, k => by
    unfold poorA
    rw [poorA_d0 hd d (k + 1), Bool.or_false]
    unfold poor
    rw [decide_eq_false (by omega)]
    rfl
theorem w7_weighs {R uF uW uB : Nat → Int32} {v : Nat → Nat → Nat} {n : Nat} {c l : List Nat} {F : FS} {ubw ubu ubd : Int32} {Z : (Nat → Int32) → Int32 → Int32 → Int32 → Prop} (hn1 : 1 ≤ n) (hn : n ≤ 4) (hv : okV v) (hR : R 0 = nI n) (hV : mV v R) (hc : okC n c = true) (hF : rF7 c uF) (hl : l.length = n) (hlt : ∀ i, i < n → l.getD i 0 < n) (hr : rR l uW) (hM : rM F uB ubw ubu ubd)
    (hz : ∀ uB' ubw' ubu' ubd', rM (stF v n c F l) uB' ubw' ubu' ubd' → Z uB' ubw' ubu' ubd') : Wp_X7_weighs R uF uW uB ubw ubu ubd Z := by
  have e0 : R (0 : Int32).toNatClampNeg = nI n := hR
  have hT : ∀ i, i < n → 0 < T1 v (gA l i) := fun i hi => (T1_bd hv (by have := hlt i hi; show l.getD i 0 < 4; omega)).1
  obtain ⟨X, Y, eXY⟩ : ∃ X Y, mn v n c l = (X, Y) := ⟨_, _, rfl⟩
  obtain ⟨x1, y1, y2⟩ := mn_bd hn1 hn hv hc hlt X Y eXY
  obtain ⟨g0, eg0⟩ : ∃ g0, g0 = gA l 0 := ⟨_, rfl⟩
  -- the new best one
  have l155 : (stF v n c F l = (X, Y, g0, c)) → ∀ d k uB', k + d = 5 → (∀ j, j < k → uB' j = nI (c.getD j 0)) → Wp_X7_weighs_155 R uF uW Z (nI k) uB' (nI g0) (nI X) (nI (dn X Y)) := by
    intro es d
    induction d with
    | zero =>
      intro k uB' hkd hb
      refine F_X7_weighs_155 _ _ _ _ _ _ _ _ _ ?_
      refine pk_le 5 k (fun _ => hz _ _ _ _ ?_) (fun q => absurd q (by omega))
      rw [es]
      exact ⟨⟨x1, y2⟩, fun q => absurd q (Nat.ne_of_gt y1), fun _ => ⟨rfl, rfl, rfl, fun j hj => hb j (by omega)⟩⟩
    | succ d ih =>
      intro k uB' hkd hb
      refine F_X7_weighs_155 _ _ _ _ _ _ _ _ _ ?_
      refine pk_le 5 k (fun q => absurd q (by omega)) (fun _ => ⟨q_in (by omega), ?_⟩)
      rw [q_cl k, hF k (by omega), nI_1]
      refine ih (k + 1) _ (by omega) (fun j hj => ?_)
      by_cases q : j = k
      · subst q; rw [pk_us]
      · rw [pk_un q]; exact hb j (by omega)
  have fin : Wp_X7_weighs_6 R uF uW Z (nI X) (nI (dn X Y)) (nI n) uB ubw ubu ubd := by
    obtain ⟨⟨f1, f2⟩, f3, f4⟩ := id hM
    have k133 : stF v n c F l = (X, Y, g0, c) → K_X7_weighs_133 R uF uW Z (Wp_X7_weighs_6 R uF uW Z) (Wp_X7_weighs_155 R uF uW Z) (nI X) (nI (dn X Y)) uB ubw ubu ubd := fun es => by
      unfold K_X7_weighs_133
      have f0 : uW (0 : Int32).toNatClampNeg = nI g0 := by rw [eg0]; exact hr 0 (by omega)
      rw [f0]
      exact ⟨q_in (k := 0) (by omega), l155 es 5 0 uB (by omega) (fun j hj => absurd hj (by omega))⟩
    have es0 : poorA v c F l n 0 = false → stF v n c F l = (X, Y, g0, c) := fun e => by
      unfold stF
      rw [e, eXY, eg0]
      rfl
    refine F_X7_weighs_6 _ _ _ _ _ _ _ _ _ _ _ ?_
    refine ⟨q_in (k := 0) (by omega), ?_⟩
    rw [e0]
    refine pk_le n n (fun _ => ?_) (fun q => absurd (Nat.le_refl n) (by omega))
    by_cases hd : F.2.1 = 0
    · exact ⟨fun _ => k133 (es0 (poorA_d0 hd n 0)), fun q => absurd (f3 hd) q⟩
    · obtain ⟨rfl, rfl, -, -⟩ := f4 hd
      have d1 : dn F.1 F.2.1 ≠ 0 := by unfold dn; split <;> omega
      have d2 := dn_bd (u := F.1) f2
      have d3 := dn_bd (u := X) y2
      have m1 := mb x1 d2
      have m2 := mb f1 d3
      have hp := mn_poor hn1 hT hd eXY
      refine pk_eq (dn F.1 F.2.1) 0 (fun q => absurd q d1) (fun _ => ?_)
      rw [pk_mul, pk_mul]
      refine pk_le _ _ (fun q => ?_) (fun q => ?_)
      · have es : stF v n c F l = F := by
          unfold stF
          rw [if_pos]
          rw [hp]
          exact decide_eq_true ((dn_le hd (by omega)).mp q)
        refine hz uB ubw _ _ ?_
        rw [es]
        exact hM
      · refine k133 (es0 ?_)
        rw [hp]
        refine decide_eq_false (fun z => ?_)
        have := (dn_le hd (show Y ≠ 0 by omega)).mpr z
        omega
  -- one place
  have step : ∀ k A B, k < n → A ≤ 216 → B ≤ 216 → (∀ A' B', (if wk v c (gA l k) k * B < A * dn (wk v c (gA l k) k) (T1 v (gA l k)) then A' = wk v c (gA l k) k ∧ B' = dn (wk v c (gA l k) k) (T1 v (gA l k)) else A' = A ∧ B' = B) → Wp_X7_weighs_6 R uF uW Z (nI A') (nI B') (nI (k + 1)) uB ubw ubu ubd) → Wp_X7_weighs_6 R uF uW Z (nI A) (nI B) (nI k) uB ubw ubu ubd := by
    intro k A B hk hA hB hnext
    refine F_X7_weighs_6 _ _ _ _ _ _ _ _ _ _ _ ?_
    have a1 := hlt k hk
    have e9 : nI k + 1 = nI (k + 1) := by rw [nI_1]
    have g4 : gA l k < 4 := by show l.getD k 0 < 4; omega
    have er : uW k = nI (gA l k) := hr k (by omega)
    obtain ⟨t1, t2⟩ := T1_bd (v := v) hv g4
    have b1 : wk v c (gA l k) k ≤ 216 := wk_le hv g4 hc
    have b2 : wk v c (gA l k) k ≤ To v (gA l k) := wk_To hc hk
    unfold B_X7_weighs_6
    rw [e0, q_cl k, e9, q_cl (k + 1), er, hF k (by omega), hF (k + 1) (by omega)]
    refine ⟨q_in (k := 0) (by omega), pk_le n k (fun q => absurd q (by omega)) (fun _ => ⟨q_in (by omega), q_in (by omega), q_in (by omega), ?_⟩)⟩
    refine w7_wk hc g4 hk hV ?_
    obtain ⟨W, hW⟩ : ∃ W, W = dn (wk v c (gA l k) k) (T1 v (gA l k)) := ⟨_, rfl⟩
    have hW216 : W ≤ 216 := by rw [hW]; exact dn_bd t2
    have k61 : K_X7_weighs_61 R uF uW Z (Wp_X7_weighs_6 R uF uW Z) (Wp_X7_weighs_155 R uF uW Z) (nI A) (nI B) (nI k) (nI (wk v c (gA l k) k)) uB ubw ubu ubd (nI W) := by
      have m1 := mb hA hW216
      have m2 := mb b1 hB
      unfold K_X7_weighs_61
      rw [pk_mul, pk_mul]
      refine pk_le _ _ (fun q => ?_) (fun q => ?_)
      · refine ⟨fun _ => ⟨fun _ => ?_, fun z => absurd rfl z⟩, fun z => absurd rfl z⟩
        rw [e9]
        refine hnext A B ?_
        rw [← hW, if_neg (by omega)]
        exact ⟨rfl, rfl⟩
      · refine ⟨fun z => absurd z (by decide), fun _ => ⟨fun z => absurd z (by decide), fun _ => ?_⟩⟩
        rw [e9]
        refine hnext (wk v c (gA l k) k) W ?_
        rw [← hW, if_pos (by omega)]
        exact ⟨rfl, rfl⟩
    refine pq_ne (wk v c (gA l k) k) 0 (fun q => ?_) (fun q => ?_)
    · have e1 : W = To v (gA l k) := by
        rw [hW]
        unfold dn T1
        rw [if_neg q]
        split <;> omega
      refine w7_total g4 hV ?_
      rw [← e1]
      exact k61
    · have e1 : W = 1 := by
        rw [hW]
        unfold dn
        rw [if_pos q]
      rw [e1] at k61
      exact k61
  have loop : ∀ d k a b, k + d = n → a ≤ 216 → 1 ≤ b → b ≤ 216 → mnf v c l d k (a, b) = (X, Y) → Wp_X7_weighs_6 R uF uW Z (nI a) (nI (dn a b)) (nI k) uB ubw ubu ubd := by
    intro d
    induction d with
    | zero =>
      intro k a b hkd h1 h2 h3 e
      have e : (a, b) = (X, Y) := e
      cases e
      have : k = n := by omega
      subst this
      exact fin
    | succ d ih =>
      intro k a b hkd h1 h2 h3 e
      have hk : k < n := by omega
      have g4 : gA l k < 4 := by have := hlt k hk; show l.getD k 0 < 4; omega
      obtain ⟨t1, t2⟩ := T1_bd (v := v) hv g4
      have b1 : wk v c (gA l k) k ≤ 216 := wk_le hv g4 hc
      refine step k a (dn a b) hk h1 (dn_bd h3) (fun A' B' h => ?_)
      rw [mnf_s] at e
      by_cases q : wk v c (gA l k) k * b < a * T1 v (gA l k)
      · rw [if_pos ((dn_lt t1).mpr q)] at h
        rw [if_pos q] at e
        rw [h.1, h.2]
        exact ih (k + 1) _ _ (by omega) b1 t1 t2 e
      · rw [if_neg (fun z => q ((dn_lt t1).mp z))] at h
        rw [if_neg q] at e
        rw [h.1, h.2]
        exact ih (k + 1) a b (by omega) h1 h2 h3 e
  have g4 : gA l 0 < 4 := by have := hlt 0 (by omega); show l.getD 0 0 < 4; omega
  obtain ⟨t1, t2⟩ := T1_bd (v := v) hv g4
  have b1 : wk v c (gA l 0) 0 ≤ 216 := wk_le hv g4 hc
  refine step 0 1 0 (by omega) (by omega) (by omega) (fun A' B' h => ?_)
  have hpos : wk v c (gA l 0) 0 * 0 < 1 * dn (wk v c (gA l 0) 0) (T1 v (gA l 0)) := by
    rw [Nat.mul_zero, Nat.one_mul]
    unfold dn
    split <;> omega
  rw [if_pos hpos] at h
  rw [h.1, h.2]
  obtain ⟨m, hm⟩ : ∃ m, n = m + 1 := ⟨n - 1, by omega⟩
  refine loop m 1 _ _ (by omega) b1 t1 t2 ?_
  unfold mn at eXY
  rw [hm, mnf_s, if_neg (Nat.lt_irrefl _)] at eXY
  exact eXY
