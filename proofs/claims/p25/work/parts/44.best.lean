/-! the best division (rows of whole) -/
theorem wk_To {v : Nat → Nat → Nat} {n : Nat} {c : List Nat} {g k : Nat} (hc : okC n c = true) (hk : k < n) : wk v c g k ≤ To v g := by
  obtain ⟨c1, c2, c3, c4, c5⟩ := okC_of hc
  have a1 := c2 k hk
  have a2 := c5 (k + 1)
  have e1 := sg_add (v g) (c.getD k 0) 0 (24 - c.getD k 0)
  have e2 := sg_add (v g) (c.getD (k + 1) 0 - c.getD k 0) (c.getD k 0) (24 - c.getD (k + 1) 0)
  rw [show c.getD k 0 + (24 - c.getD k 0) = 24 by omega, Nat.zero_add] at e1
  rw [show c.getD (k + 1) 0 - c.getD k 0 + (24 - c.getD (k + 1) 0) = 24 - c.getD k 0 by omega] at e2
  show sg (v g) (c.getD k 0) (c.getD (k + 1) 0 - c.getD k 0) ≤ sg (v g) 0 24
  omega
theorem poorA_d0 {v : Nat → Nat → Nat} {c l : List Nat} {F : FS} (hd : F.2.1 = 0) : ∀ d k, poorA v c F l d k = false
  | 0, _ => rfl
  | d + 1, k => by
    unfold poorA
    rw [poorA_d0 hd d (k + 1), Bool.or_false]
    unfold poor
    rw [decide_eq_false (by omega)]
    rfl
theorem pck_mem {n : Nat} : ∀ L : List (List Nat), pck n L = true → ∀ x, x ∈ L → x.length = n ∧ ∀ i, i < n → x.getD i 0 < n
  | [], _, _, h => by cases h
  | l :: L, h, x, hx => by
    obtain ⟨p1, p2, p3, p4, p5⟩ := pck_tail h
    rcases List.mem_cons.mp hx with rfl | hx
    · exact ⟨p1, fun i hi => all_getD p2 (by omega)⟩
    · exact pck_mem L p5 x hx
theorem ckc_mem {n : Nat} : ∀ C : List (List Nat), ckc n C = true → ∀ x, x ∈ C → okC n x = true
  | [], h, _, _ => by cases h
  | [c], h, x, hx => by
    unfold ckc at h
    rw [Bool.and_eq_true] at h
    rw [List.mem_singleton.mp hx]; exact h.1
  | c :: c' :: C, h, x, hx => by
    unfold ckc at h
    by_cases q : (okC n c && eqc c' (nc n c (n - 1))) = true
    · rw [if_pos q] at h
      rw [Bool.and_eq_true] at q
      rcases List.mem_cons.mp hx with rfl | hx
      · exact q.1
      · exact ckc_mem (c' :: C) h x hx
    · rw [if_neg q] at h
      cases h
theorem MC_mem {n : Nat} (hn1 : 1 ≤ n) (hn : n ≤ 4) : ∀ x, x ∈ MC n → okC n x = true := ckc_mem _ (MC_ck hn1 hn)
theorem mnf_le {v : Nat → Nat → Nat} {n : Nat} {c l : List Nat} (hc : okC n c = true) : ∀ d k a b x y, k + d = n → a ≤ b → mnf v c l d k (a, b) = (x, y) → x ≤ y := by
  intro d
  induction d with
  | zero =>
    intro k a b x y _ h e
    have e : (a, b) = (x, y) := e
    cases e
    exact h
  | succ d ih =>
    intro k a b x y hkd h e
    rw [mnf_s] at e
    have h1 : wk v c (gA l k) k ≤ To v (gA l k) := wk_To hc (show k < n by omega)
    have h2 : To v (gA l k) ≤ T1 v (gA l k) := by unfold T1; split <;> omega
    by_cases q : wk v c (gA l k) k * b < a * T1 v (gA l k)
    · rw [if_pos q] at e
      exact ih (k + 1) _ _ x y (by omega) (Nat.le_trans h1 h2) e
    · rw [if_neg q] at e
      exact ih (k + 1) a b x y (by omega) h e
def gdF (F : FS) : Prop := F.2.1 ≠ 0 ∧ F.1 ≤ F.2.1
theorem stF_gd {v : Nat → Nat → Nat} {n : Nat} {c l : List Nat} {F : FS} (hn1 : 1 ≤ n) (hn : n ≤ 4) (hv : okV v) (hc : okC n c = true) (hlt : ∀ i, i < n → l.getD i 0 < n) (hF : F.1 ≤ F.2.1) : gdF (stF v n c F l) := by
  unfold stF
  by_cases q : poorA v c F l n 0 = true
  · rw [if_pos q]
    refine ⟨fun e => ?_, hF⟩
    rw [poorA_d0 e n 0] at q
    cases q
  · rw [if_neg q]
    obtain ⟨X, Y, e⟩ : ∃ X Y, mn v n c l = (X, Y) := ⟨_, _, rfl⟩
    obtain ⟨b1, b2, b3⟩ := mn_bd hn1 hn hv hc hlt X Y e
    have h1 : wk v c (gA l 0) 0 ≤ To v (gA l 0) := wk_To hc (show 0 < n by omega)
    have h2 : To v (gA l 0) ≤ T1 v (gA l 0) := by unfold T1; split <;> omega
    have h3 := mnf_le hc n 0 _ _ X Y (by omega) (Nat.le_trans h1 h2) e
    rw [e]
    exact ⟨Nat.ne_of_gt b2, h3⟩
theorem foldP_gd {v : Nat → Nat → Nat} {n : Nat} {c : List Nat} (hn1 : 1 ≤ n) (hn : n ≤ 4) (hv : okV v) (hc : okC n c = true) : ∀ (L : List (List Nat)) (F : FS), (∀ x, x ∈ L → ∀ i, i < n → x.getD i 0 < n) → gdF F → gdF (L.foldl (stF v n c) F)
  | [], _, _, h => h
  | l :: L, F, hx, h => foldP_gd hn1 hn hv hc L _ (fun x hh => hx x (List.mem_cons_of_mem _ hh)) (stF_gd hn1 hn hv hc (hx l List.mem_cons_self) h.2)
theorem cF_gd {v : Nat → Nat → Nat} {n : Nat} {c : List Nat} {F : FS} (hn1 : 1 ≤ n) (hn : n ≤ 4) (hv : okV v) (hc : okC n c = true) (hF : F.1 ≤ F.2.1) : gdF (cF v n F c) := by
  have h2 := Pn_head n (by omega) hn1
  have h3 := pck_mem _ (Pn_pck n (by omega) hn1)
  unfold cF
  cases hL : Pn n with
  | nil => rw [hL] at h2; cases h2
  | cons l L =>
    rw [hL] at h3
    exact foldP_gd hn1 hn hv hc L _ (fun x hh => (h3 x (List.mem_cons_of_mem _ hh)).2) (stF_gd hn1 hn hv hc (h3 l List.mem_cons_self).2 hF)
theorem foldC_gd {v : Nat → Nat → Nat} {n : Nat} (hn1 : 1 ≤ n) (hn : n ≤ 4) (hv : okV v) : ∀ (C : List (List Nat)) (F : FS), (∀ x, x ∈ C → okC n x = true) → gdF F → gdF (C.foldl (cF v n) F)
  | [], _, _, h => h
  | c :: C, F, hx, h => foldC_gd hn1 hn hv C _ (fun x hh => hx x (List.mem_cons_of_mem _ hh)) (cF_gd hn1 hn hv (hx c List.mem_cons_self) h.2)
theorem FF_gd {v : Nat → Nat → Nat} {n : Nat} (hn1 : 1 ≤ n) (hn : n ≤ 4) (hv : okV v) : gdF (FF v n) := by
  have h2 := MC_head n (by omega) hn1
  have h3 := MC_mem hn1 hn
  unfold FF
  cases hL : MC n with
  | nil => rw [hL] at h2; cases h2
  | cons c C =>
    rw [hL] at h3
    exact foldC_gd hn1 hn hv C _ (fun x hh => h3 x (List.mem_cons_of_mem _ hh)) (cF_gd hn1 hn hv (h3 c List.mem_cons_self) (Nat.le_refl 0))
/-- what the search found still holds -/
def Rs (A : CA) (fp ft fg : Int32) (fS : Nat → Int32) (Qc Qg Qk : Int32) : Prop := rF A.1 (FF A.2.2 A.1) fp ft fg fS ∧ ∃ g k, Qc = (QQ A.2.2 A.1 g k).1 ∧ Qg = (QQ A.2.2 A.1 g k).2.1 ∧ Qk = (QQ A.2.2 A.1 g k).2.2
def Ca (A : CA) (sq fp ft fg : Int32) (fS : Nat → Int32) (Qc Qg Qk : Int32) : Prop := sq = 0 ∨ Rs A fp ft fg fS Qc Qg Qk
theorem w_searchOnce {A : CA} {cV dAH dPA : Nat → Nat → Int32} {sq dFp dFt dFg dQc dQg dQk dSp drs drg : Int32} {dFS dST dTO dGR drT : Nat → Int32} {Z : Int32 → Int32 → Int32 → Int32 → (Nat → Int32) → Int32 → Int32 → Int32 → Int32 → (Nat → Int32) → (Nat → Int32) → (Nat → Nat → Int32) → (Nat → Nat → Int32) → (Nat → Int32) → (Nat → Int32) → Int32 → Int32 → Prop} (hn1 : 1 ≤ A.1) (hn : A.1 ≤ 4) (hv : okV A.2.2) (hV : rV A.2.2 cV) (hCa : Ca A sq dFp dFt dFg dFS dQc dQg dQk) (h0 : rZ dAH)
    (hz : ∀ sq fp ft fg fS Qc Qg Qk Sp ST TO AH PA GR rt rs rg, Rs A fp ft fg fS Qc Qg Qk → rZ AH → Z sq fp ft fg fS Qc Qg Qk Sp ST TO AH PA GR rt rs rg) : Wp_X6_searchOnce sq (nI A.1) cV dFp dFt dFg dFS dQc dQg dQk dSp dST dTO dAH dPA dGR drT drs drg Z := by
  by_cases q : sq = 0
  · refine ⟨fun q2 => absurd q q2, fun _ => ?_⟩
    exact w_search hn1 hn hv hV h0 (fun fp ft fg fS Sp ST TO AH PA GR rt rs rg hF hZ => hz _ _ _ _ _ _ _ _ _ _ _ _ _ _ _ _ _ ⟨hF, dQg, dQk, rfl, rfl, rfl⟩ hZ)
  · refine ⟨fun _ => ?_, fun q2 => absurd q2 q⟩
    rcases hCa with h | h
    · exact absurd h q
    · exact hz _ _ _ _ _ _ _ _ _ _ _ _ _ _ _ _ _ h h0
def bestV (v : Nat → Nat → Nat) (n x : Nat) : Int32 := if x = 0 then nI ((FF v n).1 / Nat.gcd (FF v n).1 (FF v n).2.1) else if x = 1 then nI (lden (FF v n).1 (FF v n).2.1) else if x = 2 then nI (FF v n).2.2.1 else if n ≤ x - 2 then -9 else nI ((FF v n).2.2.2.getD (x - 2) 0)
theorem w_best {A : CA} {cV dAH dPA : Nat → Nat → Int32} {sq dFp dFt dFg dQc dQg dQk dSp drs drg : Int32} {dFS dST dTO dGR drT : Nat → Int32} {x : Nat} {Z : Int32 → Int32 → Int32 → Int32 → Int32 → (Nat → Int32) → Int32 → Int32 → Int32 → Int32 → (Nat → Int32) → (Nat → Int32) → (Nat → Nat → Int32) → (Nat → Nat → Int32) → (Nat → Int32) → (Nat → Int32) → Int32 → Int32 → Prop} (hn1 : 1 ≤ A.1) (hn : A.1 ≤ 4) (hv : okV A.2.2) (hV : rV A.2.2 cV) (hCa : Ca A sq dFp dFt dFg dFS dQc dQg dQk) (h0 : rZ dAH) (hx : x ≤ 5)
    (hz : ∀ sq fp ft fg fS Qc Qg Qk Sp ST TO AH PA GR rt rs rg, Rs A fp ft fg fS Qc Qg Qk → rZ AH → Z (bestV A.2.2 A.1 x) sq fp ft fg fS Qc Qg Qk Sp ST TO AH PA GR rt rs rg) : Wp_X6_best sq (nI A.1) cV dFp dFt dFg dFS dQc dQg dQk dSp dST dTO dAH dPA dGR drT drs drg (nI x) Z := by
  refine pk_lt x 0 (fun q => absurd q (by omega)) (fun _ => pk_le x 5 (fun _ => ?_) (fun q => absurd q (by omega)))
  refine pk_le 1 A.1 (fun _ => ?_) (fun q => absurd q (by omega))
  refine w_searchOnce hn1 hn hv hV hCa h0 (fun sq fp ft fg fS Qc Qg Qk Sp ST TO AH PA GR rt rs rg hR hZ => ?_)
  obtain ⟨gd1, gd2⟩ := FF_gd hn1 hn hv
  have hz := hz sq fp ft fg fS Qc Qg Qk Sp ST TO AH PA GR rt rs rg hR hZ
  obtain ⟨⟨⟨f1, f2⟩, -, f4⟩, -⟩ := id hR
  obtain ⟨rfl, rfl, rfl, f5⟩ := f4 gd1
  unfold bestV at hz
  refine ⟨fun q => ?_, fun q => ?_, fun q => ?_, fun q => ?_⟩
  · have q : x = 0 := (nI_eq (b := 0) (by omega) (by omega)).mp q
    rw [if_pos q] at hz
    exact w_lnum gd2 (by omega) hz
  · have q : x = 1 := (nI_eq (b := 1) (by omega) (by omega)).mp q
    rw [if_neg (by omega), if_pos q] at hz
    exact w_lden gd2 (by omega) hz
  · have q : x = 2 := (nI_eq (b := 2) (by omega) (by omega)).mp q
    rw [if_neg (by omega), if_neg (by omega), if_pos q] at hz
    exact hz
  · rw [nI_toInt (by omega)] at q
    have e1 : nI x - 2 = nI (x - 2) := pk_sub (b := 2) (by omega)
    rw [if_neg (by omega), if_neg (by omega), if_neg (by omega)] at hz
    rw [e1, q_cl (x - 2) (by omega)]
    refine pk_le A.1 (x - 2) (fun q2 => ?_) (fun q2 => ⟨q_in (by omega), ?_⟩)
    · rw [if_pos q2] at hz
      exact hz
    · rw [if_neg (by omega)] at hz
      rw [f5 _ q2]
      exact hz
def A0 : CA := (0, fun _ => 0, fun _ _ => 0)
theorem z0w : ∀ c, c < 24 → z0_X0_init_1 c = -1 := by decide
theorem Ca_of {A A' : CA} {sq sq' fp ft fg : Int32} {fS : Nat → Int32} {Qc Qg Qk : Int32} (h : Ca A sq fp ft fg fS Qc Qg Qk) (hs : sq' = 0 ∨ (sq' = sq ∧ A' = A)) : Ca A' sq' fp ft fg fS Qc Qg Qk := by
  rcases hs with e | ⟨rfl, rfl⟩
  · exact Or.inl e
  · exact h
