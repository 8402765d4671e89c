/-! divisions, the class: the fair rows -/
theorem q_m1 : ∀ T, T < 217 → 1 ≤ T → (-1 : Int32) * nI T < 0 := by decide +kernel
theorem mb {a b : Nat} (ha : a ≤ 216) (hb : b ≤ 216) : a * b ≤ 46656 := Nat.mul_le_mul ha hb
theorem T1_bd {v : Nat → Nat → Nat} {g : Nat} (hv : okV v) (hg : g < 4) : 1 ≤ T1 v g ∧ T1 v g ≤ 216 := by
  have := To_le hv hg
  unfold T1
  split <;> omega
def okF (F : FS) : Prop := F.1 ≤ 216 ∧ F.2.1 ≤ 216
def rF (n : Nat) (F : FS) (fp ft fg : Int32) (fS : Nat → Int32) : Prop := okF F ∧ (F.2.1 = 0 → fp = -1 ∧ ft = 1) ∧ (F.2.1 ≠ 0 → fp = nI F.1 ∧ ft = nI F.2.1 ∧ fg = nI F.2.2.1 ∧ ∀ k, k < n → fS k = nI (F.2.2.2.getD k 0))
theorem mnf_s {v : Nat → Nat → Nat} {c l : List Nat} {d k a b : Nat} : mnf v c l (d + 1) k (a, b) = mnf v c l d (k + 1) (if wk v c (gA l k) k * b < a * T1 v (gA l k) then (wk v c (gA l k) k, T1 v (gA l k)) else (a, b)) := rfl
theorem mnf_bd {v : Nat → Nat → Nat} {n : Nat} {c l : List Nat} (hn : n ≤ 4) (hv : okV v) (hc : okC n c = true) (hlt : ∀ i, i < n → l.getD i 0 < n) : ∀ d k a b x y, k + d = n → a ≤ 216 → 1 ≤ b → b ≤ 216 → mnf v c l d k (a, b) = (x, y) → x ≤ 216 ∧ 1 ≤ y ∧ y ≤ 216 := by
  intro d
  induction d with
  | zero =>
    intro k a b x y _ h1 h2 h3 e
    have e : (a, b) = (x, y) := e
    cases e
    exact ⟨h1, h2, h3⟩
  | succ d ih =>
    intro k a b x y hkd h1 h2 h3 e
    rw [mnf_s] at e
    have q1 : gA l k < 4 := by have := hlt k (by omega); show l.getD k 0 < 4; omega
    obtain ⟨b1, b2⟩ := T1_bd (v := v) (g := gA l k) hv q1
    have b3 : wk v c (gA l k) k ≤ 216 := wk_le hv q1 hc
    by_cases q : wk v c (gA l k) k * b < a * T1 v (gA l k)
    · rw [if_pos q] at e
      exact ih (k + 1) _ _ x y (by omega) b3 b1 b2 e
    · rw [if_neg q] at e
      exact ih (k + 1) a b x y (by omega) h1 h2 h3 e
theorem mn_bd {v : Nat → Nat → Nat} {n : Nat} {c l : List Nat} (hn1 : 1 ≤ n) (hn : n ≤ 4) (hv : okV v) (hc : okC n c = true) (hlt : ∀ i, i < n → l.getD i 0 < n) : ∀ x y, mn v n c l = (x, y) → x ≤ 216 ∧ 1 ≤ y ∧ y ≤ 216 := fun x y e => by
  have q1 : gA l 0 < 4 := by have := hlt 0 (by omega); show l.getD 0 0 < 4; omega
  obtain ⟨b1, b2⟩ := T1_bd (v := v) (g := gA l 0) hv q1
  have b3 : wk v c (gA l 0) 0 ≤ 216 := wk_le hv q1 hc
  exact mnf_bd hn hv hc hlt n 0 _ _ x y (by omega) b3 b1 b2 e
theorem poor_congr {v : Nat → Nat → Nat} {c l x : List Nat} {F : FS} {p : Nat} (h : gA x p = gA l p) : poor v c F x p = poor v c F l p := by
  unfold poor
  rw [h]
theorem poorA_of {v : Nat → Nat → Nat} {c l : List Nat} {F : FS} {p : Nat} (h : poor v c F l p = true) : ∀ d k, k ≤ p → p < k + d → poorA v c F l d k = true
  | 0, k, h1, h2 => absurd h2 (by omega)
  | d + 1, k, h1, h2 => by
    unfold poorA
    by_cases e : k = p
    · subst e; rw [h]; rfl
    · rw [poorA_of h d (k + 1) (by omega) (by omega), Bool.or_true]
theorem stF_skip {v : Nat → Nat → Nat} {n : Nat} {c l x : List Nat} {p : Nat} {F : FS} (hp : p < n) (h : poor v c F l p = true) (hx : x.take (p + 1) = l.take (p + 1)) : stF v n c F x = F := by
  unfold stF
  rw [if_pos]
  exact poorA_of (by rw [poor_congr (take_gA hx)]; exact h) n 0 (Nat.zero_le _) (by omega)
theorem w_firstPoor {v : Nat → Nat → Nat} {n : Nat} {c l : List Nat} {F : FS} {fp ft fg : Int32} {fS TO rt : Nat → Int32} {PA : Nat → Nat → Int32} {Z : Int32 → Prop} (hn : n ≤ 4) (hv : okV v) (hc : okC n c = true) (hF : rF n F fp ft fg fS) (hP : rP v n c PA) (hT : rT v n TO) (hl : l.length = n) (hlt : ∀ i, i < n → l.getD i 0 < n) (hr : rR l rt)
    (h0 : poorA v c F l n 0 = false → Z (nI n)) (h1 : ∀ p, p < n → poor v c F l p = true → Z (nI p)) : Wp_X1_firstPoor fp ft (nI n) TO PA rt Z := by
  obtain ⟨⟨f1, f2⟩, f3, f4⟩ := hF
  have key : ∀ d k, k + d = n → (poorA v c F l d k = false → Z (nI n)) → Wp_X1_firstPoor_2 fp ft (nI n) TO PA rt Z (nI k) := by
    intro d
    induction d with
    | zero =>
      intro k hkd hz
      refine F_X1_firstPoor_2 _ _ _ _ _ _ _ _ ?_
      exact pk_le n k (fun _ => hz rfl) (fun q => absurd q (by omega))
    | succ d ih =>
      intro k hkd hz
      refine F_X1_firstPoor_2 _ _ _ _ _ _ _ _ ?_
      have hk : k < n := by omega
      have a1 := hlt k hk
      have b1 := T1_bd (v := v) hv (show l.getD k 0 < 4 by omega)
      have b2 := wk_le (k := k) hv (show l.getD k 0 < 4 by omega) hc
      unfold B_X1_firstPoor_2
      rw [q_cl k, hr k (by omega), q_cl (l.getD k 0), hT _ a1, hP _ a1 k hk, nI_1]
      refine pk_le n k (fun q => absurd q (by omega)) (fun _ => ⟨q_in (by omega), q_in (by omega), ?_⟩)
      have go0 : poor v c F l k = false → Wp_X1_firstPoor_2 fp ft (nI n) TO PA rt Z (nI (k + 1)) := fun e => by
        refine ih (k + 1) (by omega) (fun he => hz ?_)
        unfold poorA
        rw [e, he]
        rfl
      by_cases q : F.2.1 = 0
      · obtain ⟨rfl, rfl⟩ := f3 q
        have e1 : (-1 : Int32) * nI (T1 v (l.getD k 0)) < nI (wk v c (l.getD k 0) k) * 1 := by
          have e2 : nI (wk v c (l.getD k 0) k) * 1 = nI (wk v c (l.getD k 0) k * 1) := pk_mul _ 1
          rw [e2, Nat.mul_one]
          exact Int32.lt_of_lt_of_le (q_m1 _ (by omega) b1.1) (Int32.not_lt.mp (nI_nlt (b := 0) (Nat.zero_le _) (by omega)))
        refine ⟨fun _ => go0 ?_, fun q2 => absurd e1 q2⟩
        unfold poor
        rw [decide_eq_false (by omega)]
        rfl
      · obtain ⟨rfl, rfl, -, -⟩ := f4 q
        have m1 := mb f1 b1.2
        have m2 := mb b2 f2
        rw [pk_mul, pk_mul]
        have e : poor v c F l k = decide (wk v c (l.getD k 0) k * F.2.1 ≤ F.1 * T1 v (l.getD k 0)) := by
          unfold poor
          rw [decide_eq_true q]
          rfl
        refine pk_lt _ _ (fun q2 => go0 ?_) (fun q2 => h1 k hk ?_)
        · rw [e]; exact decide_eq_false (by omega)
        · rw [e]; exact decide_eq_true (by omega)
  exact key n 0 (by omega) h0
theorem w_keepFair {v : Nat → Nat → Nat} {n : Nat} {c l : List Nat} {fp ft fg : Int32} {fS TO ST rt : Nat → Int32} {PA : Nat → Nat → Int32} {Z : Int32 → Int32 → Int32 → (Nat → Int32) → Prop} (hn1 : 1 ≤ n) (hn : n ≤ 4) (hv : okV v) (hc : okC n c = true) (hS : rS n c ST) (hP : rP v n c PA) (hT : rT v n TO) (hl : l.length = n) (hlt : ∀ i, i < n → l.getD i 0 < n) (hr : rR l rt)
    (hz : ∀ fp' ft' fg' fS', rF n ((mn v n c l).1, (mn v n c l).2, gA l 0, c) fp' ft' fg' fS' → Z fp' ft' fg' fS') : Wp_X1_keepFair fp ft fg fS (nI n) ST TO PA rt Z := by
  obtain ⟨X, Y, eXY⟩ : ∃ X Y, mn v n c l = (X, Y) := ⟨_, _, rfl⟩
  have bd := mn_bd hn1 hn hv hc hlt X Y eXY
  rw [eXY] at hz
  obtain ⟨g0, eg0⟩ : ∃ g0, g0 = gA l 0 := ⟨_, rfl⟩
  rw [← eg0] at hz
  have hz : ∀ fS', (∀ j, j < n → fS' j = nI (c.getD j 0)) → Z (nI X) (nI Y) (nI g0) fS' := fun fS' h => hz _ _ _ _ ⟨⟨bd.1, bd.2.2⟩, fun q => absurd q (Nat.ne_of_gt bd.2.1), fun _ => ⟨rfl, rfl, rfl, h⟩⟩
  have key : ∀ d k a b fS, k + d = n → a ≤ 216 → 1 ≤ b → b ≤ 216 → mnf v c l d k (a, b) = (X, Y) → (∀ j, j < k → fS j = nI (c.getD j 0)) → Wp_X1_keepFair_43 (nI n) ST TO PA rt Z (nI k) (nI a) (nI b) (nI g0) fS := by
    intro d
    induction d with
    | zero =>
      intro k a b fS hkd h1 h2 h3 e hb
      refine F_X1_keepFair_43 _ _ _ _ _ _ _ _ _ _ _ ?_
      refine pk_le n k (fun _ => ?_) (fun q => absurd q (by omega))
      have e : (a, b) = (X, Y) := e
      cases e
      exact hz fS (fun j hj => hb j (by omega))
    | succ d ih =>
      intro k a b fS hkd h1 h2 h3 e hb
      refine F_X1_keepFair_43 _ _ _ _ _ _ _ _ _ _ _ ?_
      have hk : k < n := by omega
      have a1 := hlt k hk
      obtain ⟨t1, t2⟩ := T1_bd (v := v) hv (show l.getD k 0 < 4 by omega)
      have b2 := wk_le (k := k) hv (show l.getD k 0 < 4 by omega) hc
      have e9 : nI k + 1 = nI (k + 1) := by rw [nI_1]
      rw [mnf_s] at e
      unfold gA at e
      unfold B_X1_keepFair_43
      rw [q_cl k, hr k (by omega), q_cl (l.getD k 0), hT _ a1, hP _ a1 k hk, e9, pk_mul, pk_mul, hS k (by omega)]
      have hb' : ∀ j, j < k + 1 → upd fS k (nI (c.getD k 0)) j = nI (c.getD j 0) := fun j hj => by
        by_cases q : j = k
        · subst q; rw [pk_us]
        · rw [pk_un q]; exact hb j (by omega)
      generalize wk v c (l.getD k 0) k = w at b2 e ⊢
      generalize T1 v (l.getD k 0) = T at t1 t2 e ⊢
      have m1 := mb h1 t2
      have m2 := mb b2 h3
      refine pk_le n k (fun q => absurd q (by omega)) (fun _ => ⟨q_in (by omega), q_in (by omega), q_in (by omega), ?_⟩)
      refine pk_le _ _ (fun q => ?_) (fun q => ?_)
      · rw [if_neg (by omega)] at e
        exact ih (k + 1) a b _ (by omega) h1 h2 h3 e hb'
      · rw [if_pos (by omega)] at e
        exact ih (k + 1) w T _ (by omega) b2 t1 t2 e hb'
  have a0 := hlt 0 (by omega)
  obtain ⟨t1, t2⟩ := T1_bd (v := v) hv (show l.getD 0 0 < 4 by omega)
  have b2 := wk_le (k := 0) hv (show l.getD 0 0 < 4 by omega) hc
  unfold mn at eXY
  unfold gA at eXY eg0
  unfold Wp_X1_keepFair
  have f0 : rt (0 : Int32).toNatClampNeg = nI g0 := by rw [eg0]; exact hr 0 (by omega)
  have f1 : PA g0 (0 : Int32).toNatClampNeg = nI (wk v c (l.getD 0 0) 0) := by rw [eg0]; exact hP _ a0 0 (by omega)
  have f2 : TO g0 = nI (T1 v (l.getD 0 0)) := by rw [eg0]; exact hT _ a0
  rw [f0, q_cl g0 (by omega), f1, f2]
  exact ⟨q_in (k := 0) (by omega), q_in (by omega), key n 0 _ _ fS (by omega) b2 t1 t2 eXY (fun j hj => absurd hj (by omega))⟩
theorem w_seekFair {v : Nat → Nat → Nat} {n : Nat} {c : List Nat} {F : FS} {fp ft fg : Int32} {fS ST TO rt : Nat → Int32} {PA : Nat → Nat → Int32} {rs rg : Int32} {Z : Int32 → Int32 → Int32 → (Nat → Int32) → (Nat → Int32) → Int32 → Int32 → Prop} (hn1 : 1 ≤ n) (hn : n ≤ 4) (hv : okV v) (hc : okC n c = true) (hS : rS n c ST) (hP : rP v n c PA) (hT : rT v n TO) (hF : rF n F fp ft fg fS)
    (hz : ∀ fp' ft' fg' fS' rt' rs' rg', rF n (cF v n F c) fp' ft' fg' fS' → Z fp' ft' fg' fS' rt' rs' rg') : Wp_X1_seekFair fp ft fg fS (nI n) ST TO PA rt rs rg Z := by
  have key : ∀ N (L : List (List Nat)) (l : List Nat) (j : Nat) (F : FS) (fp ft fg : Int32) (fS rt : Nat → Int32), L.length < N → pck n (l :: L) = true → j + (l :: L).length ≤ 1000 → rR l rt → okR l → rF n F fp ft fg fS → (∀ fp' ft' fg' fS' rt' rs' rg', rF n ((l :: L).foldl (stF v n c) F) fp' ft' fg' fS' → Z fp' ft' fg' fS' rt' rs' rg') → Wp_X1_seekFair_19 (nI n) ST TO PA Z 1 (nI j) fp ft fg fS rt (nI n) (nI n) := by
    intro N
    induction N with
    | zero => intro L l j F fp ft fg fS rt h; omega
    | succ N ih =>
      intro L l j F fp ft fg fS rt hN hpc hj hr ok hF hz
      obtain ⟨p1, p2, p3, p4, p5⟩ := pck_tail hpc
      have hlt : ∀ i, i < n → l.getD i 0 < n := fun i hi => all_getD p2 (by omega)
      rw [List.length_cons] at hj
      have next : ∀ p (F' : FS) (fp fg ft : Int32) (fS : Nat → Int32) (L' : List (List Nat)), p < 100 → advN n n l p = L'.head? → pck n L' = true → L'.length ≤ L.length → rF n F' fp ft fg fS → (∀ fp' ft' fg' fS' rt' rs' rg', rF n (L'.foldl (stF v n c) F') fp' ft' fg' fS' → Z fp' ft' fg' fS' rt' rs' rg') → Wp_X4_advance rt (nI n) (nI n) (nI p) (fun r_13 drT_12 => Wp_X1_seekFair_19 (nI n) ST TO PA Z r_13 (nI j + 1) fp ft fg fS drT_12 (nI n) (nI n)) := by
        intro p F' fp fg ft fS L' hp100 hadv hpc' hlen hF' hz'
        rw [nI_1]
        refine w_advance hn hn hn1 hp100 p1 hr ok (fun l' rt' e r1 r2 r3 => ?_) (fun e => ?_)
        · rw [hadv] at e
          cases L' with
          | nil => cases e
          | cons l2 L2 =>
            have e : l2 = l' := by simpa using e
            subst e
            rw [List.length_cons] at hlen
            exact ih L2 l2 (j + 1) F' fp ft fg fS rt' (by omega) hpc' (by rw [List.length_cons]; omega) r1 r2 hF' hz'
        · rw [hadv] at e
          cases L' with
          | cons l2 L2 => cases e
          | nil =>
            refine F_X1_seekFair_19 _ _ _ _ _ _ _ _ _ _ _ _ _ _ ?_
            exact ⟨fun _ => hz' _ _ _ _ _ _ _ hF', fun q => absurd rfl q⟩
      refine F_X1_seekFair_19 _ _ _ _ _ _ _ _ _ _ _ _ _ _ ?_
      refine ⟨fun q => absurd q (by decide), fun _ => pk_le 1000000 j (fun q => absurd q (by omega)) (fun _ => ?_) rfl rfl (by omega) (by omega)⟩
      refine w_firstPoor hn hv hc hF hP hT p1 hlt hr (fun he => ?_) (fun p hp he => ?_)
      · refine ⟨fun q => absurd rfl q, fun _ => ?_⟩
        have e1 : stF v n c F l = ((mn v n c l).1, (mn v n c l).2, gA l 0, c) := by
          unfold stF
          rw [he]
          rfl
        rw [List.foldl_cons, e1] at hz
        refine w_keepFair hn1 hn hv hc hS hP hT p1 hlt hr (fun fp' ft' fg' fS' hF' => ?_)
        exact next n _ fp' fg' ft' fS' L (by omega) p3 p5 (Nat.le_refl _) hF' hz
      · refine pq_ne p n (fun _ => ?_) (fun q => absurd q (by omega))
        have e1 : stF v n c F l = F := stF_skip hp he rfl
        rw [List.foldl_cons, e1, fold_dwl (stF v n c) F p l (fun x hx => stF_skip hp he hx)] at hz
        exact next p F fp fg ft fS (dwl p l L) (by omega) (p4 p hp) (pck_dwl L p5) (dwl_len p l L) hF hz
  refine w_begin hn hn (fun rt' r1 r2 => ?_)
  have h2 := Pn_head n (by omega) hn1
  have h3 := Pn_pck n (by omega) hn1
  have h4 := Pn_len n (by omega) hn1
  unfold cF at hz
  cases hL : Pn n with
  | nil => rw [hL] at h2; cases h2
  | cons l L =>
    rw [hL] at h2 h3 h4 hz
    have h2 : l = fillN n n [] := by simpa using h2
    subst h2
    exact key (L.length + 1) L _ 0 F fp ft fg fS rt' (by omega) h3 (by omega) r1 r2 hF hz
