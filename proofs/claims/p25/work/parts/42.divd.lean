/-! divisions, the class: the cuts and the search -/
theorem st_s {c : List Nat} {i x : Nat} (h : i < c.length) : (c.set i x).getD i 0 = x := by
  simp [List.getD_eq_getElem?_getD, List.getElem?_set, h]
theorem st_n {c : List Nat} {i j x : Nat} (h : i ≠ j) : (c.set i x).getD j 0 = c.getD j 0 := by
  simp [List.getD_eq_getElem?_getD, List.getElem?_set, h]
theorem rS_set {n : Nat} {c : List Nat} {ST : Nat → Int32} {k x : Nat} (h : rS n c ST) (h5 : c.length = 5) (hk : k < 5) : rS n (c.set k x) (upd ST k (nI x)) := fun j hj => by
  by_cases e : j = k
  · subst e; rw [pk_us, st_s (by omega)]
  · rw [pk_un e, st_n (by omega)]; exact h j hj
theorem w_nextCuts {n : Nat} {c : List Nat} {ST : Nat → Int32} {Z : Int32 → (Nat → Int32) → Prop} (hn1 : 1 ≤ n) (hn : n ≤ 4) (hc : okC n c = true) (hS : rS n c ST)
    (h1 : ∀ c' ST', nc n c (n - 1) = some c' → rS n c' ST' → Z 1 ST') (h0 : nc n c (n - 1) = none → Z 0 ST) : Wp_X1_nextCuts (nI n) ST Z := by
  obtain ⟨c1, c2, c3, c4, c5⟩ := okC_of hc
  have l44 : ∀ d k c ST, k + d = n → 1 ≤ k → c.length = 5 → rS n c ST → (∀ ST', rS n (cfl n d k c) ST' → Z 1 ST') → Wp_X1_nextCuts_44 (nI n) Z (nI k) ST := by
    intro d
    induction d with
    | zero =>
      intro k c ST hkd hk1 h5 hS hz
      refine F_X1_nextCuts_44 _ _ _ _ ?_
      exact pk_le n k (fun _ => hz ST hS) (fun q => absurd q (by omega))
    | succ d ih =>
      intro k c ST hkd hk1 h5 hS hz
      refine F_X1_nextCuts_44 _ _ _ _ ?_
      have e1 : nI k - 1 = nI (k - 1) := pk_sub (b := 1) (by omega)
      have e9 : nI k + 1 = nI (k + 1) := by rw [nI_1]
      have e8 : ST (k - 1) + 1 = nI (c.getD (k - 1) 0 + 1) := by rw [hS (k - 1) (by omega), nI_1]
      unfold B_X1_nextCuts_44
      rw [e1, q_cl k, q_cl (k - 1) (by omega), e9, e8]
      refine pk_le n k (fun q => absurd q (by omega)) (fun _ => ⟨q_in (by omega), q_in (by omega), ?_⟩)
      exact ih (k + 1) _ _ (by omega) (by omega) (by rw [List.length_set]; exact h5) (rS_set hS h5 (by omega)) hz
  have l7 : ∀ k, k < n → nc n c (n - 1) = nc n c k → Wp_X1_nextCuts_7 (nI n) Z (nI k) ST := by
    intro k
    induction k with
    | zero =>
      intro _ e
      refine F_X1_nextCuts_7 _ _ _ _ ?_
      exact pk_lt 0 1 (fun _ => h0 e) (fun q => absurd q (by omega))
    | succ k ih =>
      intro hk e
      refine F_X1_nextCuts_7 _ _ _ _ ?_
      have b1 := c5 (k + 1)
      have e1 : (24 : Int32) - nI n + nI (k + 1) = nI (24 - n + (k + 1)) := by
        have e2 : (24 : Int32) - nI n = nI (24 - n) := pk_sub (a := 24) (by omega)
        rw [e2, nI_add]
      have e9 : nI (k + 1) + 1 = nI (k + 2) := by rw [nI_1]
      unfold B_X1_nextCuts_7
      rw [q_cl (k + 1), hS (k + 1) (by omega), e1, e9, q_down k]
      have e : nc n c (n - 1) = if c.getD (k + 1) 0 < 24 - n + (k + 1) then some (cfl n (n - (k + 2)) (k + 2) (c.set (k + 1) (c.getD (k + 1) 0 + 1))) else nc n c k := e
      have e7 : nI (c.getD (k + 1) 0) + 1 = nI (c.getD (k + 1) 0 + 1) := by rw [nI_1]
      rw [e7]
      refine pk_lt (k + 1) 1 (fun q => absurd q (by omega)) (fun _ => ⟨q_in (by omega), ?_⟩)
      refine pk_le _ _ (fun q => ?_) (fun q => ?_)
      · rw [if_neg (by omega)] at e
        exact ih (by omega) e
      · rw [if_pos q] at e
        exact l44 (n - (k + 2)) (k + 2) _ _ (by omega) (by omega) (by rw [List.length_set]; exact c1) (rS_set hS c1 (by omega)) (fun ST' h => h1 _ ST' e h)
  have e1 : nI n - 1 = nI (n - 1) := pk_sub (b := 1) (by omega)
  unfold Wp_X1_nextCuts
  rw [e1]
  exact l7 (n - 1) (by omega) rfl
theorem eqc_of {c : List Nat} {o : Option (List Nat)} (h : eqc c o = true) : o = some c := by
  cases o with
  | none => cases h
  | some c' =>
    have : c = c' := of_decide_eq_true h
    rw [this]
theorem w_search {v : Nat → Nat → Nat} {n : Nat} {cV dAH dPA : Nat → Nat → Int32} {dFp dFt dFg dQc dQg dQk dSp drs drg : Int32} {dFS dST dTO dGR drT : Nat → Int32} {Z : Int32 → Int32 → Int32 → (Nat → Int32) → Int32 → Int32 → Int32 → Int32 → (Nat → Int32) → (Nat → Int32) → (Nat → Nat → Int32) → (Nat → Nat → Int32) → (Nat → Int32) → (Nat → Int32) → Int32 → Int32 → Prop} (hn1 : 1 ≤ n) (hn : n ≤ 4) (hv : okV v) (hV : rV v cV) (h0 : rZ dAH)
    (hz : ∀ fp ft fg fS Sp ST TO AH PA GR rt rs rg, rF n (FF v n) fp ft fg fS → rZ AH → Z fp ft fg fS (QQ v n dQg dQk).1 (QQ v n dQg dQk).2.1 (QQ v n dQg dQk).2.2 Sp ST TO AH PA GR rt rs rg) : Wp_X1_search dFp dFt dFg dFS dQc dQg dQk dSp dST dTO dAH dPA dGR drT drs drg (nI n) cV Z := by
  refine w_prepare hn1 hn hv hV h0 (fun ST TO AH hS hT hA hZ => ?_)
  refine pk_lt n 1 (fun q => absurd q (by omega)) (fun _ => ?_)
  have key : ∀ (C : List (List Nat)) (c : List Nat) (j : Nat) (F : FS) (Q : QS) (fp ft fg : Int32) (fS ST GR rt : Nat → Int32) (PA : Nat → Nat → Int32) (rs rg : Int32), ckc n (c :: C) = true → j + (c :: C).length ≤ 5000 → rS n c ST → rF n F fp ft fg fS → (∀ fp' ft' fg' fS' ST' PA' GR' rt' rs' rg', rF n ((c :: C).foldl (cF v n) F) fp' ft' fg' fS' → Z fp' ft' fg' fS' ((c :: C).foldl (cQ v n) Q).1 ((c :: C).foldl (cQ v n) Q).2.1 ((c :: C).foldl (cQ v n) Q).2.2 (nI n) ST' TO AH PA' GR' rt' rs' rg') → Wp_X1_search_21 (nI n) cV Z 1 (nI j) fp ft fg fS Q.1 Q.2.1 Q.2.2 (nI n) ST TO AH PA GR rt rs rg := by
    intro C
    induction C with
    | nil =>
      intro c j F Q fp ft fg fS ST GR rt PA rs rg hck hj hS hF hz
      refine F_X1_search_21 _ _ _ _ _ _ _ _ _ _ _ _ _ _ _ _ _ _ _ _ _ ?_
      unfold ckc at hck
      rw [Bool.and_eq_true] at hck
      refine ⟨fun q => absurd q (by decide), fun _ => pk_le 1000000 j (fun q => absurd q (by simp at hj; omega)) (fun _ => ?_) rfl rfl (by omega) (by simp at hj; omega)⟩
      refine w_measureSpans hn hv hck.1 hS hA (fun PA' GR' hP hG => ?_)
      refine w_seekFair hn1 hn hv hck.1 hS hP hT hF (fun fp' ft' fg' fS' rt' rs' rg' hF' => ?_)
      refine w_seekQuiet (Q := Q) hn1 hn hv hck.1 hS hP hG (fun rt2 rs2 rg2 => ?_)
      refine w_nextCuts hn1 hn hck.1 hS (fun c' ST' e _ => ?_) (fun e => ?_)
      · have := hck.2
        rw [e] at this
        cases this
      · refine F_X1_search_21 _ _ _ _ _ _ _ _ _ _ _ _ _ _ _ _ _ _ _ _ _ ?_
        exact ⟨fun _ => hz _ _ _ _ _ _ _ _ _ _ hF', fun q => absurd rfl q⟩
    | cons c' C ih =>
      intro c j F Q fp ft fg fS ST GR rt PA rs rg hck hj hS hF hz
      refine F_X1_search_21 _ _ _ _ _ _ _ _ _ _ _ _ _ _ _ _ _ _ _ _ _ ?_
      unfold ckc at hck
      by_cases hcc : (okC n c && eqc c' (nc n c (n - 1))) = true
      · rw [if_pos hcc] at hck
        rw [Bool.and_eq_true] at hcc
        have hnc := eqc_of hcc.2
        refine ⟨fun q => absurd q (by decide), fun _ => pk_le 1000000 j (fun q => absurd q (by simp at hj; omega)) (fun _ => ?_) rfl rfl (by omega) (by simp at hj; omega)⟩
        refine w_measureSpans hn hv hcc.1 hS hA (fun PA' GR' hP hG => ?_)
        refine w_seekFair hn1 hn hv hcc.1 hS hP hT hF (fun fp' ft' fg' fS' rt' rs' rg' hF' => ?_)
        refine w_seekQuiet (Q := Q) hn1 hn hv hcc.1 hS hP hG (fun rt2 rs2 rg2 => ?_)
        refine w_nextCuts hn1 hn hcc.1 hS (fun c2 ST' e hS' => ?_) (fun e => by rw [hnc] at e; cases e)
        rw [hnc] at e
        cases e
        rw [nI_1]
        exact ih c' (j + 1) (cF v n F c) (cQ v n Q c) fp' ft' fg' fS' ST' GR' rt2 PA' rs2 rg2 hck (by simp at hj ⊢; omega) hS' hF' hz
      · rw [if_neg hcc] at hck
        cases hck
  have m1 := MC_ck hn1 hn
  have m2 := MC_len n (by omega)
  have m3 := MC_head n (by omega) hn1
  have f0 : rF n (0, 0, 0, []) (-1) 1 dFg dFS := ⟨⟨Nat.zero_le _, Nat.zero_le _⟩, fun _ => ⟨rfl, rfl⟩, fun q => absurd rfl q⟩
  unfold FF QQ at hz
  cases hL : MC n with
  | nil => rw [hL] at m3; cases m3
  | cons c C =>
    rw [hL] at m1 m2 m3 hz
    have m3 : c = c0 n := by simpa using m3
    subst m3
    exact key C _ 0 (0, 0, 0, []) (0, dQg, dQk) (-1) 1 dFg dFS ST dGR drT dPA drs drg m1 (by omega) hS f0 (fun fp' ft' fg' fS' ST' PA' GR' rt' rs' rg' hF' => hz _ _ _ _ _ _ _ _ _ _ _ _ _ hF' hZ)
