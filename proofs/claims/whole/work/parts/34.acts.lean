/-! the calls that need no search, class beside reference -/
theorem zs_no {n j : Nat} {x : Int32} {P : Prop} (h : x.toInt < 0 ∨ (n : Int) < x.toInt) (hj : j ≤ n) (hn : n < 1000) : x = nI j → P := fun e => by
  subst e
  rw [nI_toInt (by omega)] at h
  omega
theorem w_isSpan {x y : Int32} {Z : Int32 → Prop} (h1 : ∀ a b, a ≤ b → b < 24 → x = nI a → y = nI b → Z 1) (h0 : (∀ a b, a ≤ b → b < 24 → x = nI a → y = nI b → False) → Z 0) : Wp_X6_isSpan x y Z := by
  rcases pk_ix x (n := 24) (by omega) with h | h | ⟨a, ha, rfl⟩
  · have z := h0 (fun a b _ _ e _ => by subst e; exact nI_pos (by omega) h)
    exact ⟨fun _ => z, fun q => absurd h q⟩
  · have z := h0 (fun a b hab hb e _ => by subst e; exact nI_ge (show a < 24 by omega) (by omega) h)
    refine ⟨fun _ => z, fun _ => ⟨fun _ => z, fun q => ⟨fun _ => z, fun q2 => absurd (Int32.le_trans h (Int32.not_lt.mp q)) q2⟩⟩⟩
  · refine pk_lt a 0 (fun q => absurd q (by omega)) (fun _ => ?_)
    rcases pk_ix y (n := 24) (by omega) with h | h | ⟨b, hb, rfl⟩
    · have z := h0 (fun a b _ _ _ e => by subst e; exact nI_pos (by omega) h)
      have z2 : y < nI a := by
        have q1 := Int32.lt_iff_toInt_lt.mp h
        have : (0 : Int32).toInt = 0 := by decide
        rw [Int32.lt_iff_toInt_lt, nI_toInt (by omega)]
        omega
      exact ⟨fun _ => z, fun q => absurd z2 q⟩
    · have z := h0 (fun a b _ hb _ e => by subst e; exact nI_ge hb (by omega) h)
      exact ⟨fun _ => z, fun _ => ⟨fun _ => z, fun q => absurd h q⟩⟩
    · refine pk_lt b a (fun q => h0 (fun a2 b2 hab _ e1 e2 => ?_)) (fun q => ?_)
      · have a1 := (nI_eq (by omega) (by omega)).mp e1
        have a2 := (nI_eq (by omega) (by omega)).mp e2
        omega
      · exact pk_le 24 b (fun q2 => absurd q2 (by omega)) (fun _ => h1 a b q hb rfl rfl)
theorem w_isPair {n : Nat} {x y : Int32} {Z : Int32 → Prop} (hn : n ≤ 4) (h1 : ∀ g k, g < n → k < n → g ≠ k → x = nI g → y = nI k → Z 1) (h0 : (∀ g k, g < n → k < n → g ≠ k → x = nI g → y = nI k → False) → Z 0) : Wp_X6_isPair (nI n) x y Z := by
  refine w_isGuest hn (fun g hg e => ?_) (fun h => ?_)
  · refine ⟨fun q => absurd q (by decide), fun _ => ?_⟩
    refine w_isGuest hn (fun k hk e2 => ?_) (fun h => ?_)
    · refine ⟨fun q => absurd q (by decide), fun _ => ?_⟩
      subst e; subst e2
      exact pk_eq g k (fun q => h0 (fun g2 k2 _ _ hne e1 e2 => by
        have a1 := (nI_eq (by omega) (by omega)).mp e1
        have a2 := (nI_eq (by omega) (by omega)).mp e2
        omega)) (fun q => h1 g k hg hk q rfl rfl)
    · exact ⟨fun _ => h0 (fun g2 k2 _ hk2 _ _ e2 => h k2 hk2 e2), fun q => absurd rfl q⟩
  · exact ⟨fun _ => h0 (fun g2 k2 hg2 _ _ e1 _ => h g2 hg2 e1), fun q => absurd rfl q⟩
/-- the reference's range of two plain bounds -/
theorem w7_in {x : Int32} {l u : Nat} {Z : Int32 → Prop} (hl : l < 2 ^ 20) (hu : u < 2 ^ 20) (h1 : ∀ b, l ≤ b → b ≤ u → x = nI b → Z 1) (h0 : (∀ b, l ≤ b → b ≤ u → x ≠ nI b) → Z 0) : Wp_X7_in x (nI l) (nI u) Z := by
  by_cases hx : x < 0
  · have z : Z 0 := h0 (fun b _ _ e => by subst e; exact nI_pos (by omega) hx)
    have z2 : x < nI l := by
      have q1 := Int32.lt_iff_toInt_lt.mp hx
      have : (0 : Int32).toInt = 0 := by decide
      rw [Int32.lt_iff_toInt_lt, nI_toInt (by omega)]
      omega
    exact ⟨fun _ => z, fun q => absurd z2 q⟩
  · obtain ⟨j, hj, rfl⟩ := nI_of hx
    have no : ¬ (l ≤ j ∧ j ≤ u) → Z 0 := fun h => h0 (fun b b1 b2 e => by
      have := (nI_eq (by omega) (by omega)).mp e
      omega)
    refine pk_lt j l (fun q => no (by omega)) (fun q => ?_)
    exact pk_lt u j (fun q2 => no (by omega)) (fun q2 => h1 j q q2 rfl)
/-- the state of both sides: one abstract cake A, k former ones h -/
def St (A : CA) (k : Nat) (h : Nat → CA) (ss cg : Int32) (cw : Nat → Int32) (cV : Nat → Nat → Int32) (qg : Nat → Int32) (qw : Nat → Nat → Int32) (qV : Nat → Nat → Nat → Int32) (uR : Nat → Int32) (uk : Int32) : Prop :=
  okA A ∧ k ≤ 5 ∧ okH k h ∧ ss = nI k ∧ cR A cg cw cV ∧ cH k h qg qw qV ∧ mR 0 A uR ∧ uk = nI k ∧ mH k h uR
/-- what a call leaves: a state of both sides, and the search's mark is off, or nothing changed -/
def Af (A : CA) (sq : Int32) (ss' sq' cg' : Int32) (cw' : Nat → Int32) (cV' : Nat → Nat → Int32) (qg' : Nat → Int32) (qw' : Nat → Nat → Int32) (qV' : Nat → Nat → Nat → Int32) (uR' : Nat → Int32) (uk' : Int32) : Prop :=
  ∃ A' k' h', St A' k' h' ss' cg' cw' cV' qg' qw' qV' uR' uk' ∧ (sq' = 0 ∨ (sq' = sq ∧ A' = A))
theorem St.same {A : CA} {k : Nat} {h : Nat → CA} {ss sq cg : Int32} {cw : Nat → Int32} {cV : Nat → Nat → Int32} {qg : Nat → Int32} {qw : Nat → Nat → Int32} {qV : Nat → Nat → Nat → Int32} {uR : Nat → Int32} {uk : Int32} (hS : St A k h ss cg cw cV qg qw qV uR uk) : Af A sq ss sq cg cw cV qg qw qV uR uk := ⟨A, k, h, hS, Or.inr ⟨rfl, rfl⟩⟩
/-- an action: both record; then go on from there, with the state that was, and its copy in the history -/
theorem act {A : CA} {k : Nat} {h : Nat → CA} {ss sq cg : Int32} {cw : Nat → Int32} {cV : Nat → Nat → Int32} {qg : Nat → Int32} {qw : Nat → Nat → Int32} {qV : Nat → Nat → Nat → Int32} {uR : Nat → Int32} {uk : Int32} (hS : St A k h ss cg cw cV qg qw qV uR uk) {Z : Int32 → Int32 → (Nat → Int32) → (Nat → Nat → Int32) → (Nat → Nat → Nat → Int32) → Prop}
    (hz : ∀ qg' qw' qV', cH (recK k) (recH k h A) qg' qw' qV' → Z (nI (recK k)) 0 qg' qw' qV') : Wp_X6_record ss sq cg cw cV qg qw qV Z := by
  obtain ⟨h1, h2, h3, rfl, h5, h6, h7, rfl, h9⟩ := hS
  exact w_record h2 h5 h6 hz
theorem act7 {A : CA} {k : Nat} {h : Nat → CA} {ss cg : Int32} {cw : Nat → Int32} {cV : Nat → Nat → Int32} {qg : Nat → Int32} {qw : Nat → Nat → Int32} {qV : Nat → Nat → Nat → Int32} {uR : Nat → Int32} {uk : Int32} (hS : St A k h ss cg cw cV qg qw qV uR uk) {Z : (Nat → Int32) → Int32 → Prop}
    (hz : ∀ R', mR 0 A R' → mH (recK k) (recH k h A) R' → Z R' (nI (recK k))) : Wp_X7_records uR uk Z := by
  obtain ⟨h1, h2, h3, rfl, h5, h6, h7, rfl, h9⟩ := hS
  exact w7_records h2 h7 h9 hz
section OPS
variable {A : CA} {k : Nat} {h : Nat → CA} {ss sq cg : Int32} {cw : Nat → Int32} {cV : Nat → Nat → Int32} {qg : Nat → Int32} {qw : Nat → Nat → Int32} {qV : Nat → Nat → Nat → Int32} {uR : Nat → Int32} {uk : Int32}
theorem op_addGuest (hS : St A k h ss cg cw cV qg qw qV uR uk) : Wp_X6_addGuest ss sq cg cw cV qg qw qV (fun r ss' sq' cg' cV' qg' qw' qV' => Wp_X7_addGuest uR uk (fun r' uR' uk' => r = r' ∧ Af A sq ss' sq' cg' cw cV' qg' qw' qV' uR' uk')) := by
  have hS0 := hS
  obtain ⟨⟨hn, ho, hv⟩, hk, hh, -, ⟨hcg, hcw, hcV⟩, hcH, hmR, -, hmH⟩ := hS
  obtain ⟨n, o, v⟩ := A
  have hcg : cg = nI n := hcg
  subst hcg
  have e0 : uR (0 : Int32).toNatClampNeg = nI n := hmR.R0
  have hn : n ≤ 4 := hn
  refine pk_lt n 4 (fun q => ?_) (fun q => ?_)
  · refine act hS0 (fun qg' qw' qV' c1 => ?_)
    unfold Wp_X0_seatGuest
    refine w_setValues (g := n) (x := 1) (a := 0) (b := 23) (v := v) (by omega) (by omega) (by omega) hcV (fun cV' hV' => ?_)
    refine ⟨q_in (k := 0) (by omega), ?_⟩
    rw [e0]
    refine pq_ne n 4 (fun _ => ?_) (fun q2 => absurd q2 (by omega))
    refine act7 hS0 (fun R' m1 m2 => ?_)
    have e1 : R' (0 : Int32).toNatClampNeg = nI n := m1.R0
    rw [e1, nI_1]
    have key : ∀ d c R2, c + d = 24 → R2 0 = nI (n + 1) → mO o R2 → mV (sv n 1 0 c v) R2 → (∀ j, 121 ≤ j → R2 j = R' j) → Wp_X7_addGuest_36 (fun r' uR' uk' => nI n = r' ∧ Af (n, o, v) sq (nI (recK k)) 0 (nI (n + 1)) cw cV' qg' qw' qV' uR' uk') (nI n) (nI c) R2 (nI (recK k)) := by
      intro d
      induction d with
      | zero =>
        intro c R2 hcd r0 rO rV' rf
        refine F_X7_addGuest_36 _ _ _ _ _ ?_
        refine pk_le 24 c (fun _ => ⟨rfl, ?_⟩) (fun q => absurd q (by omega))
        have hc : c = 24 := by omega
        subst hc
        refine ⟨(n + 1, o, sv n 1 0 24 v), recK k, recH k h (n, o, v), ⟨⟨by show n + 1 ≤ 4; omega, fun j hj => Nat.le_succ_of_le (ho j hj), sv_ok (by omega) hv⟩, recK_le hk, recH_ok hk hh ⟨hn, ho, hv⟩, rfl, ⟨rfl, hcw, hV'⟩, c1, mR.mk r0 rO rV', rfl, m2.keep rf⟩, Or.inl rfl⟩
      | succ d ih =>
        intro c R2 hcd r0 rO rV' rf
        refine F_X7_addGuest_36 _ _ _ _ _ ?_
        refine pk_le 24 c (fun q => absurd q (by omega)) (fun _ => ?_)
        rw [ix_v, q_cl (25 + 24 * n + c) (by omega), nI_1]
        refine ⟨q_in (by omega), ?_⟩
        refine ih (c + 1) _ (by omega) ?_ (fun j hj => ?_) (fun g j hg hj => ?_) (fun j hj => ?_)
        · rw [pk_un (by omega)]; exact r0
        · rw [pk_un (by omega)]; exact rO j hj
        · by_cases e : g = n ∧ j = c
          · obtain ⟨rfl, rfl⟩ := e
            rw [pk_us]
            unfold sv
            rw [if_pos ⟨rfl, by omega, by omega⟩]
            rfl
          · rw [pk_un (by omega), rV' g j hg hj]
            unfold sv
            by_cases e2 : g = n ∧ 0 ≤ j ∧ j < 0 + c
            · rw [if_pos e2, if_pos ⟨e2.1, by omega, by omega⟩]
            · rw [if_neg e2, if_neg (by omega)]
        · rw [pk_un (by omega)]; exact rf j hj
    refine key 24 0 _ (by omega) ?_ (fun j hj => ?_) (fun g j hg hj => ?_) (fun j hj => ?_)
    · exact pk_us
    · show upd R' 0 _ (1 + j) = _
      rw [pk_un (by omega)]; exact m1.O j hj
    · show upd R' 0 _ (25 + 24 * g + j) = _
      rw [pk_un (by omega), m1.V g j hg hj]
      unfold sv
      rw [if_neg (by omega)]
    · show upd R' 0 _ j = _
      rw [pk_un (by omega)]
  · refine ⟨q_in (k := 0) (by omega), ?_⟩
    rw [e0]
    exact pq_ne n 4 (fun q2 => absurd (show n = 4 by omega) q2) (fun _ => ⟨rfl, hS0.same⟩)
theorem op_setValue (hS : St A k h ss cg cw cV qg qw qV uR uk) (x1 x2 x3 x4 : Int32) : Wp_X6_setValue ss sq cg cw cV qg qw qV x1 x2 x3 x4 (fun r ss' sq' cV' qg' qw' qV' => Wp_X7_setValue uR uk x1 x2 x3 x4 (fun r' uR' uk' => r = r' ∧ Af A sq ss' sq' cg cw cV' qg' qw' qV' uR' uk')) := by
  have hS0 := hS
  obtain ⟨⟨hn, ho, hv⟩, hk, hh, -, ⟨hcg, hcw, hcV⟩, hcH, hmR, -, hmH⟩ := hS
  obtain ⟨n, o, v⟩ := A
  have hcg : cg = nI n := hcg
  subst hcg
  have hn : n ≤ 4 := hn
  have bad : (∀ g a b y, g < n → a ≤ b → b < 24 → y ≤ 9 → x1 = nI g → x2 = nI a → x3 = nI b → x4 = nI y → False) → Wp_X7_setValue uR uk x1 x2 x3 x4 (fun r' uR' uk' => -1 = r' ∧ Af (n, o, v) sq ss sq (nI n) cw cV qg qw qV uR' uk') := fun hb => by
    refine w7_isGuest hn hmR.R0 (fun g hg e => ?_) (fun _ => ⟨fun _ => ⟨rfl, hS0.same⟩, fun q => absurd rfl q⟩)
    refine ⟨fun q => absurd q (by decide), fun _ => ?_⟩
    refine w7_isSpan (fun a b hab hb24 e1 e2 => ?_) (fun _ => ⟨fun _ => ⟨rfl, hS0.same⟩, fun q => absurd rfl q⟩)
    refine ⟨fun q => absurd q (by decide), fun _ => ?_⟩
    refine w7_in (l := 0) (u := 9) (by omega) (by omega) (fun y _ hy e3 => absurd (hb g a b y hg hab hb24 hy e e1 e2 e3) id) (fun _ => ⟨fun q => absurd rfl q, fun _ => ⟨rfl, hS0.same⟩⟩)
  refine w_isGuest hn (fun g hg e => ?_) (fun hno => ⟨fun _ => bad (fun g _ _ _ hg _ _ _ e _ _ _ => hno g hg e), fun q => absurd rfl q⟩)
  refine ⟨fun q => absurd q (by decide), fun _ => ?_⟩
  refine w_isSpan (fun a b hab hb24 e1 e2 => ?_) (fun hno => ⟨fun _ => bad (fun _ a b _ _ hab hb _ _ e1 e2 _ => hno a b hab hb e1 e2), fun q => absurd rfl q⟩)
  refine ⟨fun q => absurd q (by decide), fun _ => ?_⟩
  by_cases h4 : x4 < 0
  · exact ⟨fun _ => bad (fun _ _ _ y _ _ _ _ _ _ _ e => by subst e; exact nI_pos (by omega) h4), fun q => absurd h4 q⟩
  · refine ⟨fun q => absurd q h4, fun _ => ?_⟩
    obtain ⟨y, hy, rfl⟩ := nI_of h4
    refine pk_le y 9 (fun hy9 => ?_) (fun q => bad (fun _ _ _ y2 _ _ _ hy2 _ _ _ e => by
      have := (nI_eq (by omega) (by omega)).mp e
      omega))
    subst e; subst e1; subst e2
    have hg : g < n := hg
    refine act hS0 (fun qg' qw' qV' c1 => ?_)
    refine w_setValues (g := g) (x := y) (a := a) (b := b) (v := v) (by omega) hb24 (by omega) hcV (fun cV' hV' => ?_)
    refine w_total (by omega) hV' ?_
    refine w7_isGuest hn hmR.R0 (fun _ _ _ => ?_) (fun hno => absurd rfl (hno g hg))
    refine ⟨fun q => absurd q (by decide), fun _ => ?_⟩
    refine w7_isSpan (fun _ _ _ _ _ _ => ?_) (fun hno => absurd (hno a b hab hb24 rfl rfl) id)
    refine ⟨fun q => absurd q (by decide), fun _ => ?_⟩
    refine w7_in (l := 0) (u := 9) (by omega) (by omega) (fun _ _ _ _ => ?_) (fun hno => absurd rfl (hno y (by omega) hy9))
    refine ⟨fun _ => ?_, fun q => absurd q (by decide)⟩
    refine act7 hS0 (fun R' m1 m2 => ?_)
    have key : ∀ d c R2, c + d = b + 1 → a ≤ c → mV (sv g y a (c - a) v) R2 → fV R' R2 → Wp_X7_setValue_36 (nI g) (nI a) (nI b) (nI y) (fun r' uR' uk' => nI (To (sv g y a (b + 1 - a) v) g) = r' ∧ Af (n, o, v) sq (nI (recK k)) 0 (nI n) cw cV' qg' qw' qV' uR' uk') (nI c) R2 (nI (recK k)) := by
      intro d
      induction d with
      | zero =>
        intro c R2 hcd hac rV' rf
        refine F_X7_setValue_36 _ _ _ _ _ _ _ _ ?_
        refine pk_lt b c (fun _ => ?_) (fun q => absurd q (by omega))
        rw [show c - a = b + 1 - a by omega] at rV'
        refine w7_total (by omega) rV' ⟨rfl, ?_⟩
        exact ⟨(n, o, sv g y a (b + 1 - a) v), recK k, recH k h (n, o, v), ⟨⟨hn, ho, sv_ok hy9 hv⟩, recK_le hk, recH_ok hk hh ⟨hn, ho, hv⟩, rfl, ⟨rfl, hcw, hV'⟩, c1, m1.setV rV' rf, rfl, m2.fV rf⟩, Or.inl rfl⟩
      | succ d ih =>
        intro c R2 hcd hac rV' rf
        refine F_X7_setValue_36 _ _ _ _ _ _ _ _ ?_
        refine pk_lt b c (fun q => absurd q (by omega)) (fun _ => ?_)
        rw [ix_v, q_cl (25 + 24 * g + c) (by omega), nI_1]
        refine ⟨q_in (by omega), ?_⟩
        refine ih (c + 1) _ (by omega) (by omega) (fun g2 j hg2 hj => ?_) (fun j hj => ?_)
        · by_cases e : g2 = g ∧ j = c
          · obtain ⟨rfl, rfl⟩ := e
            rw [pk_us]
            unfold sv
            rw [if_pos ⟨rfl, by omega, by omega⟩]
          · rw [pk_un (by omega), rV' g2 j hg2 hj]
            unfold sv
            by_cases e2 : g2 = g ∧ a ≤ j ∧ j < a + (c - a)
            · rw [if_pos e2, if_pos ⟨e2.1, by omega, by omega⟩]
            · rw [if_neg e2, if_neg (by omega)]
        · rw [pk_un (by omega)]; exact rf j hj
    refine key (b + 1 - a) a R' (by omega) (Nat.le_refl a) (fun g2 j hg2 hj => ?_) (fun _ _ => rfl)
    rw [m1.V g2 j hg2 hj]
    unfold sv
    rw [if_neg (by omega)]
theorem op_give (hS : St A k h ss cg cw cV qg qw qV uR uk) (x1 x2 x3 : Int32) : Wp_X6_give ss sq cg cw cV qg qw qV x1 x2 x3 (fun r ss' sq' cw' qg' qw' qV' => Wp_X7_give uR uk x1 x2 x3 (fun r' uR' uk' => r = r' ∧ Af A sq ss' sq' cg cw' cV qg' qw' qV' uR' uk')) := by
  have hS0 := hS
  obtain ⟨⟨hn, ho', hv⟩, hk, hh, -, ⟨hcg, hcw, hcV⟩, hcH, hmR, -, hmH⟩ := hS
  obtain ⟨n, o, v⟩ := A
  have hcg : cg = nI n := hcg
  subst hcg
  have hn : n ≤ 4 := hn
  have ho' : okO n o := ho'
  have hv : okV v := hv
  have bad : (∀ g a b, g < n → a ≤ b → b < 24 → x1 = nI g → x2 = nI a → x3 = nI b → False) → Wp_X7_give uR uk x1 x2 x3 (fun r' uR' uk' => -1 = r' ∧ Af (n, o, v) sq ss sq (nI n) cw cV qg qw qV uR' uk') := fun hb => by
    refine w7_isGuest hn hmR.R0 (fun g hg e => ?_) (fun _ => ⟨fun _ => ⟨rfl, hS0.same⟩, fun q => absurd rfl q⟩)
    refine ⟨fun q => absurd q (by decide), fun _ => ?_⟩
    exact w7_isSpan (fun a b hab hb24 e1 e2 => absurd (hb g a b hg hab hb24 e e1 e2) id) (fun _ => ⟨fun q => absurd rfl q, fun _ => ⟨rfl, hS0.same⟩⟩)
  refine w_isGuest hn (fun g hg e => ?_) (fun hno => ⟨fun _ => bad (fun g _ _ hg _ _ e _ _ => hno g hg e), fun q => absurd rfl q⟩)
  refine ⟨fun q => absurd q (by decide), fun _ => ?_⟩
  refine w_isSpan (fun a b hab hb24 e1 e2 => ?_) (fun hno => ⟨fun q => absurd rfl q, fun _ => bad (fun _ a b _ hab hb _ e1 e2 => hno a b hab hb e1 e2)⟩)
  refine ⟨fun _ => ?_, fun q => absurd q (by decide)⟩
  subst e; subst e1; subst e2
  have hg : g < n := hg
  refine act hS0 (fun qg' qw' qV' c1 => ?_)
  refine w_handOut (h := g + 1) hn ho' (by omega) hb24 (by omega) hcw (fun cw' hW' => ?_)
  refine w7_isGuest hn hmR.R0 (fun _ _ _ => ?_) (fun hno => absurd rfl (hno g hg))
  refine ⟨fun q => absurd q (by decide), fun _ => ?_⟩
  refine w7_isSpan (fun _ _ _ _ _ _ => ?_) (fun hno => absurd (hno a b hab hb24 rfl rfl) id)
  refine ⟨fun _ => ?_, fun q => absurd q (by decide)⟩
  refine act7 hS0 (fun R' m1 m2 => ?_)
  refine w7_bringsT (h := g + 1) hn ho' (by omega) hb24 (by omega) m1.O (fun R2 hO2 hf => ⟨rfl, ?_⟩)
  exact ⟨(n, (ho (g + 1) (b + 1 - a) a o 0).1, v), recK k, recH k h (n, o, v), ⟨⟨hn, ho_ok (by show g + 1 ≤ n; omega) _ _ _ _ ho', hv⟩, recK_le hk, recH_ok hk hh ⟨hn, ho', hv⟩, rfl, ⟨rfl, hW', hcV⟩, c1, m1.setO hO2 hf, rfl, m2.fO hf⟩, Or.inl rfl⟩
theorem op_putBack (hS : St A k h ss cg cw cV qg qw qV uR uk) (x1 x2 : Int32) : Wp_X6_putBack ss sq cg cw cV qg qw qV x1 x2 (fun r ss' sq' cw' qg' qw' qV' => Wp_X7_putBack uR uk x1 x2 (fun r' uR' uk' => r = r' ∧ Af A sq ss' sq' cg cw' cV qg' qw' qV' uR' uk')) := by
  have hS0 := hS
  obtain ⟨⟨hn, ho', hv⟩, hk, hh, -, ⟨hcg, hcw, hcV⟩, hcH, hmR, -, hmH⟩ := hS
  obtain ⟨n, o, v⟩ := A
  have hcg : cg = nI n := hcg
  subst hcg
  have hn : n ≤ 4 := hn
  have ho' : okO n o := ho'
  have hv : okV v := hv
  refine w_isSpan (fun a b hab hb24 e1 e2 => ?_) (fun hno => ⟨fun q => absurd rfl q, fun _ => ?_⟩)
  · refine ⟨fun _ => ?_, fun q => absurd q (by decide)⟩
    subst e1; subst e2
    refine act hS0 (fun qg' qw' qV' c1 => ?_)
    refine w_takeBack hn ho' hb24 (by omega) hcw (fun cw' hW' => ?_)
    refine w7_isSpan (fun _ _ _ _ _ _ => ?_) (fun hno => absurd (hno a b hab hb24 rfl rfl) id)
    refine ⟨fun _ => ?_, fun q => absurd q (by decide)⟩
    refine act7 hS0 (fun R' m1 m2 => ?_)
    refine w7_bringsF hn ho' hb24 (by omega) m1.O (fun R2 hO2 hf => ⟨rfl, ?_⟩)
    exact ⟨(n, (tb (b + 1 - a) a o 0).1, v), recK k, recH k h (n, o, v), ⟨⟨hn, tb_ok _ _ _ _ ho', hv⟩, recK_le hk, recH_ok hk hh ⟨hn, ho', hv⟩, rfl, ⟨rfl, hW', hcV⟩, c1, m1.setO hO2 hf, rfl, m2.fO hf⟩, Or.inl rfl⟩
  · exact w7_isSpan (fun a b hab hb24 e1 e2 => absurd (hno a b hab hb24 e1 e2) id) (fun _ => ⟨fun q => absurd rfl q, fun _ => ⟨rfl, hS0.same⟩⟩)
theorem op_trim (hS : St A k h ss cg cw cV qg qw qV uR uk) (x1 x2 : Int32) : Wp_X6_trim ss sq cg cw cV qg qw qV x1 x2 (fun r ss' sq' cw' qg' qw' qV' => Wp_X7_trim uR uk x1 x2 (fun r' uR' uk' => r = r' ∧ Af A sq ss' sq' cg cw' cV qg' qw' qV' uR' uk')) := by
  have hS0 := hS
  obtain ⟨⟨hn, ho', hv⟩, hk, hh, -, ⟨hcg, hcw, hcV⟩, hcH, hmR, -, hmH⟩ := hS
  obtain ⟨n, o, v⟩ := A
  have hcg : cg = nI n := hcg
  subst hcg
  have hn : n ≤ 4 := hn
  have ho' : okO n o := ho'
  have hv : okV v := hv
  refine w_isPair hn (fun g j hg hj hgj e1 e2 => ?_) (fun hno => ⟨fun q => absurd rfl q, fun _ => ?_⟩)
  · refine ⟨fun _ => ?_, fun q => absurd q (by decide)⟩
    subst e1; subst e2
    refine act hS0 (fun qg' qw' qV' c1 => ?_)
    refine w_trimPiece hn ho' hv hg hj hgj hcw hcV (fun cw' hW' => ?_)
    refine w7_areGuests hn hmR.R0 (fun _ _ _ _ _ _ _ => ?_) (fun hno => absurd (hno g j hg hj hgj rfl rfl) id)
    refine ⟨fun _ => ?_, fun q => absurd q (by decide)⟩
    refine act7 hS0 (fun R' m1 m2 => ?_)
    have key : ∀ c t o2 R2, c ≤ 24 → okO n o2 → mO o2 R2 → mV v R2 → fO R' R2 → tr v g j c o2 t = tr v g j 24 o 0 → Wp_X7_trim_21 (nI g) (nI j) (fun r' uR' uk' => nI (tr v g j 24 o 0).2 = r' ∧ Af (n, o, v) sq (nI (recK k)) 0 (nI n) cw' cV qg' qw' qV' uR' uk') (nI t) (nI c + (-1)) R2 (nI (recK k)) := by
      intro c
      induction c with
      | zero =>
        intro t o2 R2 _ ok2 rO rV' rf etr
        refine F_X7_trim_21 _ _ _ _ _ _ _ ?_
        have e3 : tr v g j 24 o 0 = (o2, t) := by rw [← etr]; unfold tr; rfl
        refine ⟨fun _ => ⟨by rw [e3], ?_⟩, fun q => absurd (by decide) q⟩
        rw [e3] at hW'
        exact ⟨(n, o2, v), recK k, recH k h (n, o, v), ⟨⟨hn, ok2, hv⟩, recK_le hk, recH_ok hk hh ⟨hn, ho', hv⟩, rfl, ⟨rfl, hW', hcV⟩, c1, m1.setO rO rf, rfl, m2.fO rf⟩, Or.inl rfl⟩
      | succ c ih =>
        intro t o2 R2 hc24 ok2 rO rV' rf etr
        rw [q_down]
        refine F_X7_trim_21 _ _ _ _ _ _ _ ?_
        have hc : c < 24 := by omega
        have hoc := ok2 c hc
        refine pk_lt c 0 (fun q => absurd q (by omega)) (fun _ => ?_)
        rw [ix_o, q_cl (1 + c) (by omega), rO c hc]
        refine ⟨q_in (by omega), ?_⟩
        refine pm_ne (o2 c) (g + 1) (fun e => ?_) (fun e => ?_)
        · refine ih t o2 R2 (by omega) ok2 rO rV' rf ?_
          rw [← etr]
          conv => rhs; unfold tr
          rw [if_neg (fun q => e q.1)]
        · refine w7_envyOf hn ok2 hv (show j < 4 by omega) (show g < 4 by omega) rO rV' ?_
          have b1 := En_le (o := o2) (k := g) hv (show j < 4 by omega)
          refine pk_le (En v o2 j g) 0 (fun q => ?_) (fun q => ?_)
          · refine ih t o2 R2 (by omega) ok2 rO rV' rf ?_
            rw [← etr]
            conv => rhs; unfold tr
            have : ¬ Wo v o2 j (j + 1) < Wo v o2 j (g + 1) := by unfold En at q; omega
            rw [if_neg (fun q => this q.2)]
          · rw [nI_1]
            refine ih (t + 1) (up o2 c 0) _ (by omega) (okO_up ok2 (by omega)) (mO_up (h := 0) rO) (fun g2 j2 hg2 hj2 => by rw [pk_un (by omega)]; exact rV' g2 j2 hg2 hj2) (fO_up hc rf) ?_
            rw [← etr]
            conv => rhs; unfold tr
            have : Wo v o2 j (j + 1) < Wo v o2 j (g + 1) := by unfold En at q; omega
            rw [if_pos ⟨e, this⟩]
    exact key 24 0 o R' (Nat.le_refl _) ho' m1.O m1.V (fun _ _ => rfl) rfl
  · exact w7_areGuests hn hmR.R0 (fun g j hg hj hgj e1 e2 => absurd (hno g j hg hj hgj e1 e2) id) (fun _ => ⟨fun q => absurd rfl q, fun _ => ⟨rfl, hS0.same⟩⟩)
theorem op_undo (hS : St A k h ss cg cw cV qg qw qV uR uk) : Wp_X6_undo ss sq cg cw cV qg qw qV (fun r ss' sq' cg' cw' cV' => Wp_X7_undo uR uk (fun r' uR' uk' => r = r' ∧ Af A sq ss' sq' cg' cw' cV' qg qw qV uR' uk')) := by
  have hS0 := hS
  obtain ⟨hA, hk, hh, rfl, hcR, hcH, hmR, rfl, hmH⟩ := hS
  cases k with
  | zero =>
    refine pk_lt 0 1 (fun _ => ?_) (fun q => absurd q (by omega))
    exact pq_ne 0 0 (fun q => absurd rfl q) (fun _ => ⟨rfl, hS0.same⟩)
  | succ k =>
    refine pk_lt (k + 1) 1 (fun q => absurd q (by omega)) (fun _ => ?_)
    refine pk_le (k + 1) 5 (fun _ => ?_) (fun q => absurd q (by omega))
    rw [nI_pred, q_cl k]
    refine ⟨q_in (by omega), ?_⟩
    refine w_become (hcH k (by omega)) (fun w' V' hA' => ?_)
    refine pq_ne (k + 1) 0 (fun _ => ?_) (fun q => absurd q (by omega))
    have e4 : (121 : Int32) * nI (k + 1) = nI (121 * (k + 1)) := pk_mul 121 (k + 1)
    rw [e4]
    refine w7_copies (b := 0) (by omega) (by omega) (by omega) (fun R2 c1 c2 => ?_)
    rw [nI_pred]
    refine ⟨rfl, h k, k, h, ⟨hh k (by omega), by omega, fun i hi => hh i (by omega), rfl, hA', fun i hi => hcH i (by omega), (hmH k (by omega)).copy c1, rfl, fun i hi => (hmH i (by omega)).keep (fun j j1 j2 => c2 j (by omega))⟩, Or.inl rfl⟩
theorem op_cut (hS : St A k h ss cg cw cV qg qw qV uR uk) (x1 x2 x3 x4 : Int32) : Wp_X6_cut ss sq cg cw cV qg qw qV x1 x2 x3 x4 (fun r ss' sq' cw' qg' qw' qV' => Wp_X7_cut uR uk x1 x2 x3 x4 (fun r' uR' uk' => r = r' ∧ Af A sq ss' sq' cg cw' cV qg' qw' qV' uR' uk')) := by
  have hS0 := hS
  obtain ⟨⟨hn, ho', hv⟩, hk, hh, -, ⟨hcg, hcw, hcV⟩, hcH, hmR, -, hmH⟩ := hS
  obtain ⟨n, o, v⟩ := A
  have hcg : cg = nI n := hcg
  subst hcg
  have hn : n ≤ 4 := hn
  have ho' : okO n o := ho'
  have hv : okV v := hv
  have bad : (∀ g j a b, g < n → j < n → g ≠ j → a < b → b < 24 → x1 = nI g → x2 = nI j → x3 = nI a → x4 = nI b → False) → Wp_X7_cut uR uk x1 x2 x3 x4 (fun r' uR' uk' => -1 = r' ∧ Af (n, o, v) sq ss sq (nI n) cw cV qg qw qV uR' uk') := fun hb => by
    refine w7_areGuests hn hmR.R0 (fun g j hg hj hgj e1 e2 => ?_) (fun _ => ⟨fun _ => ⟨rfl, hS0.same⟩, fun q => absurd rfl q⟩)
    refine ⟨fun q => absurd q (by decide), fun _ => ?_⟩
    refine w7_in (l := 0) (u := 22) (by omega) (by omega) (fun a _ ha e3 => ?_) (fun _ => ⟨fun _ => ⟨rfl, hS0.same⟩, fun q => absurd rfl q⟩)
    refine ⟨fun q => absurd q (by decide), fun _ => ?_⟩
    subst e3
    rw [nI_1]
    exact w7_in (l := a + 1) (u := 23) (by omega) (by omega) (fun b hb1 hb2 e4 => absurd (hb g j a b hg hj hgj (by omega) (by omega) e1 e2 rfl e4) id) (fun _ => ⟨fun q => absurd rfl q, fun _ => ⟨rfl, hS0.same⟩⟩)
  refine w_isPair hn (fun g j hg hj hgj e1 e2 => ?_) (fun hno => ⟨fun _ => bad (fun g j _ _ hg hj hgj _ _ e1 e2 _ _ => hno g j hg hj hgj e1 e2), fun q => absurd rfl q⟩)
  refine ⟨fun q => absurd q (by decide), fun _ => ?_⟩
  refine w_isSpan (fun a b hab hb24 e3 e4 => ?_) (fun hno => ⟨fun _ => bad (fun _ _ a b _ _ _ hab hb _ _ e1 e2 => hno a b (by omega) hb e1 e2), fun q => absurd rfl q⟩)
  refine ⟨fun q => absurd q (by decide), fun _ => ?_⟩
  subst e1; subst e2; subst e3; subst e4
  refine pq_ne a b (fun hne => ?_) (fun hab2 => bad (fun _ _ a2 b2 _ _ _ hab2' _ _ _ e1 e2 => by
    have a1 := (nI_eq (by omega) (by omega)).mp e1
    have a2 := (nI_eq (by omega) (by omega)).mp e2
    omega))
  have hlt : a < b := by omega
  have pre : ∀ {Z : Int32 → (Nat → Int32) → Int32 → Prop}, Wp_X7_cut_37 (nI g) (nI j) (nI a) (nI b) Z (nI a) uR uk → Wp_X7_cut uR uk (nI g) (nI j) (nI a) (nI b) Z := fun hq => by
    refine w7_areGuests hn hmR.R0 (fun _ _ _ _ _ _ _ => ?_) (fun hno => absurd (hno g j hg hj hgj rfl rfl) id)
    refine ⟨fun q => absurd q (by decide), fun _ => ?_⟩
    refine w7_in (l := 0) (u := 22) (by omega) (by omega) (fun _ _ _ _ => ?_) (fun hno => absurd rfl (hno a (by omega) (by omega)))
    refine ⟨fun q => absurd q (by decide), fun _ => ?_⟩
    rw [nI_1]
    refine w7_in (l := a + 1) (u := 23) (by omega) (by omega) (fun _ _ _ _ => ?_) (fun hno => absurd rfl (hno b (by omega) (by omega)))
    exact ⟨fun _ => hq, fun q => absurd q (by decide)⟩
  refine w_liesOnTable hn ho' hb24 (by omega) hcw (fun hall => ?_) (fun hex => ?_)
  · refine ⟨fun _ => ?_, fun q => absurd q (by decide)⟩
    refine act hS0 (fun qg' qw' qV' c1 => ?_)
    refine w_findCut (by omega) hb24 hv hcV hlt ?_
    have hin := cutOf_in (f := v g) hlt
    generalize hp : cutOf (v g) a b = p at hin
    obtain ⟨p', rfl⟩ : ∃ p', p = p' + 1 := ⟨p - 1, by omega⟩
    show Wp_X0_spanWorth cV (nI j) (nI a) (nI (p' + 1) - 1) _
    rw [nI_pred]
    refine w_spanWorth (by omega) (by omega) hcV (by omega) ?_
    refine w_spanWorth (by omega) hb24 hcV (by omega) ?_
    have b1 : sg (v j) a (p' + 1 - a) ≤ 216 := sgv_le hv (by omega) (by omega)
    have b2 : sg (v j) (p' + 1) (b + 1 - (p' + 1)) ≤ 216 := sgv_le hv (by omega) (by omega)
    -- both sides go on: the left part's owner, the right part's owner
    have fin : ∀ l r : Nat, l < n → r < n → ∀ (Zc : Int32 → Int32 → Int32 → (Nat → Int32) → (Nat → Int32) → (Nat → Nat → Int32) → (Nat → Nat → Nat → Int32) → Prop),
        (∀ cw', rW (ho (r + 1) (b + 1 - (p' + 1)) (p' + 1) (ho (l + 1) (p' + 1 - a) a o 0).1 0).1 cw' → Zc (nI (p' + 1)) (nI (recK k)) 0 cw' qg' qw' qV') →
        Wp_X0_handOut cw (nI l) (nI a) (nI p') (fun _ cw2 => Wp_X0_handOut cw2 (nI r) (nI (p' + 1)) (nI b) (fun _ cw3 => Zc (nI (p' + 1)) (nI (recK k)) 0 cw3 qg' qw' qV')) := fun l r hl hr Zc hz => by
      refine w_handOut (h := l + 1) hn ho' (by omega) (by omega) (by omega) hcw (fun cw2 hW2 => ?_)
      exact w_handOut (h := r + 1) hn (ho_ok (by omega) _ _ _ _ ho') (by omega) hb24 (by omega) hW2 hz
    have fin7 : ∀ l r : Nat, l < n → r < n → ∀ cw', rW (ho (r + 1) (b + 1 - (p' + 1)) (p' + 1) (ho (l + 1) (p' + 1 - a) a o 0).1 0).1 cw' → ∀ R', mR 0 (n, o, v) R' → mH (recK k) (recH k h (n, o, v)) R' →
        Wp_X7_brings R' (nI a) (nI p') 1 (nI l) (fun _ R2 => Wp_X7_brings R2 (nI (p' + 1)) (nI b) 1 (nI r) (fun _ R3 => nI (p' + 1) = nI (p' + 1) ∧ Af (n, o, v) sq (nI (recK k)) 0 (nI n) cw' cV qg' qw' qV' R3 (nI (recK k)))) := fun l r hl hr cw' hW' R' m1 m2 => by
      refine w7_bringsT (h := l + 1) hn ho' (by omega) (by omega) (by omega) m1.O (fun R2 hO2 hf2 => ?_)
      refine w7_bringsT (h := r + 1) hn (ho_ok (by omega) _ _ _ _ ho') (by omega) hb24 (by omega) hO2 (fun R3 hO3 hf3 => ⟨rfl, ?_⟩)
      have hf : fO R' R3 := fun i hi => (hf3 i hi).trans (hf2 i hi)
      exact ⟨(n, _, v), recK k, recH k h (n, o, v), ⟨⟨hn, ho_ok (by show r + 1 ≤ n; omega) _ _ _ _ (ho_ok (by omega) _ _ _ _ ho'), hv⟩, recK_le hk, recH_ok hk hh ⟨hn, ho', hv⟩, rfl, ⟨rfl, hW', hcV⟩, c1, m1.setO hO3 hf, rfl, m2.fO hf⟩, Or.inl rfl⟩
    -- the reference, up to its records
    have ref : ∀ (Z : Int32 → (Nat → Int32) → Int32 → Prop), (∀ R', mR 0 (n, o, v) R' → mH (recK k) (recH k h (n, o, v)) R' → Wp_X7_cutAt R' (nI g) (nI a) (nI b) (fun r_10 => Wp_X7_spanValue R' (nI j) (nI a) r_10 (fun r_11 => Wp_X7_spanValue R' (nI j) r_10 (nI b + 1) (fun r_12 => ((r_11 < r_12 → K_X7_cut_108 (nI g) (nI j) (nI a) (nI b) Z (Wp_X7_cut_37 (nI g) (nI j) (nI a) (nI b) Z) r_10 R' (nI (recK k)) 0) ∧ (¬ r_11 < r_12 → K_X7_cut_108 (nI g) (nI j) (nI a) (nI b) Z (Wp_X7_cut_37 (nI g) (nI j) (nI a) (nI b) Z) r_10 R' (nI (recK k)) 1)))))) → Wp_X7_cut uR uk (nI g) (nI j) (nI a) (nI b) Z := fun Z hq => by
      refine pre ?_
      have key : ∀ d c, c + d = b + 1 → a ≤ c → Wp_X7_cut_37 (nI g) (nI j) (nI a) (nI b) Z (nI c) uR uk := by
        intro d
        induction d with
        | zero =>
          intro c hcd hac
          refine F_X7_cut_37 _ _ _ _ _ _ _ _ ?_
          refine pk_lt b c (fun _ => ?_) (fun q => absurd q (by omega))
          exact act7 hS0 hq
        | succ d ih =>
          intro c hcd hac
          refine F_X7_cut_37 _ _ _ _ _ _ _ _ ?_
          refine pk_lt b c (fun q => absurd q (by omega)) (fun _ => ?_)
          rw [ix_o, q_cl (1 + c) (by omega), hmR.O c (by omega)]
          have hoc := ho' c (by omega)
          refine ⟨q_in (by omega), pm_eq (o c) 0 (fun _ => ?_) (fun e => absurd (hall c hac (by omega)) e)⟩
          rw [nI_1]
          exact ih (c + 1) (by omega) (by omega)
      exact key (b + 1 - a) a (by omega) (Nat.le_refl a)
    have ref2 : ∀ {Z : Int32 → (Nat → Int32) → Int32 → Prop}, (∀ R', mR 0 (n, o, v) R' → mH (recK k) (recH k h (n, o, v)) R' → (sg (v j) a (p' + 1 - a) < sg (v j) (p' + 1) (b + 1 - (p' + 1)) → K_X7_cut_108 (nI g) (nI j) (nI a) (nI b) Z (Wp_X7_cut_37 (nI g) (nI j) (nI a) (nI b) Z) (nI (p' + 1)) R' (nI (recK k)) 0) ∧ (sg (v j) (p' + 1) (b + 1 - (p' + 1)) ≤ sg (v j) a (p' + 1 - a) → K_X7_cut_108 (nI g) (nI j) (nI a) (nI b) Z (Wp_X7_cut_37 (nI g) (nI j) (nI a) (nI b) Z) (nI (p' + 1)) R' (nI (recK k)) 1)) → Wp_X7_cut uR uk (nI g) (nI j) (nI a) (nI b) Z := fun hq => by
      refine ref _ (fun R' m1 m2 => ?_)
      refine w7_cutAt (by omega) hb24 hv m1.V hlt ?_
      rw [hp]
      refine w7_spanValue (by omega) (by omega) m1.V (by omega) ?_
      rw [nI_1 b]
      refine w7_spanValue (by omega) (by omega) m1.V (by omega) ?_
      exact pk_lt _ _ (hq R' m1 m2).1 (hq R' m1 m2).2
    refine pk_lt (sg (v j) a (p' + 1 - a)) (sg (v j) (p' + 1) (b + 1 - (p' + 1))) (fun q => ?_) (fun q => ?_)
    · -- the chooser takes the right part
      refine ⟨fun _ => ?_, fun q2 => absurd rfl q2⟩
      show Wp_X0_handOut cw (nI g) (nI a) (nI (p' + 1) - 1) _
      rw [nI_pred]
      refine w_handOut (h := g + 1) hn ho' (by omega) (by omega) (by omega) hcw (fun cw2 hW2 => ?_)
      refine ⟨fun _ => ?_, fun q2 => absurd rfl q2⟩
      refine w_handOut (h := j + 1) hn (ho_ok (by omega) _ _ _ _ ho') (by omega) hb24 (by omega) hW2 (fun cw' hW' => ?_)
      refine ref2 (fun R' m1 m2 => ⟨fun _ => ?_, fun q3 => absurd q (by omega)⟩)
      refine ⟨fun _ => ?_, fun q2 => absurd rfl q2⟩
      show Wp_X7_brings R' (nI a) (nI (p' + 1) - 1) 1 (nI g) _
      rw [nI_pred]
      have f7 := fin7 g j hg hj cw' hW' R' m1 m2
      refine w7_bringsT (h := g + 1) hn ho' (by omega) (by omega) (by omega) m1.O (fun R2 hO2 hf2 => ?_)
      refine ⟨fun _ => ?_, fun q2 => absurd rfl q2⟩
      refine w7_bringsT (h := j + 1) hn (ho_ok (by omega) _ _ _ _ ho') (by omega) hb24 (by omega) hO2 (fun R3 hO3 hf3 => ⟨rfl, ?_⟩)
      have hf : fO R' R3 := fun i hi => (hf3 i hi).trans (hf2 i hi)
      exact ⟨(n, _, v), recK k, recH k h (n, o, v), ⟨⟨hn, ho_ok (by show j + 1 ≤ n; omega) _ _ _ _ (ho_ok (by omega) _ _ _ _ ho'), hv⟩, recK_le hk, recH_ok hk hh ⟨hn, ho', hv⟩, rfl, ⟨rfl, hW', hcV⟩, c1, m1.setO hO3 hf, rfl, m2.fO hf⟩, Or.inl rfl⟩
    · refine ⟨fun q2 => absurd q2 (by decide), fun _ => ?_⟩
      show Wp_X0_handOut cw (nI j) (nI a) (nI (p' + 1) - 1) _
      rw [nI_pred]
      refine w_handOut (h := j + 1) hn ho' (by omega) (by omega) (by omega) hcw (fun cw2 hW2 => ?_)
      refine ⟨fun q2 => absurd q2 (by decide), fun _ => ?_⟩
      refine w_handOut (h := g + 1) hn (ho_ok (by omega) _ _ _ _ ho') (by omega) hb24 (by omega) hW2 (fun cw' hW' => ?_)
      refine ref2 (fun R' m1 m2 => ⟨fun q3 => absurd q (by omega), fun _ => ?_⟩)
      refine ⟨fun q2 => absurd q2 (by decide), fun _ => ?_⟩
      show Wp_X7_brings R' (nI a) (nI (p' + 1) - 1) 1 (nI j) _
      rw [nI_pred]
      refine w7_bringsT (h := j + 1) hn ho' (by omega) (by omega) (by omega) m1.O (fun R2 hO2 hf2 => ?_)
      refine ⟨fun q2 => absurd q2 (by decide), fun _ => ?_⟩
      refine w7_bringsT (h := g + 1) hn (ho_ok (by omega) _ _ _ _ ho') (by omega) hb24 (by omega) hO2 (fun R3 hO3 hf3 => ⟨rfl, ?_⟩)
      have hf : fO R' R3 := fun i hi => (hf3 i hi).trans (hf2 i hi)
      exact ⟨(n, _, v), recK k, recH k h (n, o, v), ⟨⟨hn, ho_ok (by show g + 1 ≤ n; omega) _ _ _ _ (ho_ok (by omega) _ _ _ _ ho'), hv⟩, recK_le hk, recH_ok hk hh ⟨hn, ho', hv⟩, rfl, ⟨rfl, hW', hcV⟩, c1, m1.setO hO3 hf, rfl, m2.fO hf⟩, Or.inl rfl⟩
  · refine ⟨fun q => absurd rfl q, fun _ => ?_⟩
    refine pre ?_
    obtain ⟨z, hz1, hz2, hz3⟩ := hex
    have key : ∀ d c, c + d = b + 1 → a ≤ c → (∀ i, a ≤ i → i < c → o i = 0) → Wp_X7_cut_37 (nI g) (nI j) (nI a) (nI b) (fun r' uR' uk' => -2 = r' ∧ Af (n, o, v) sq ss sq (nI n) cw cV qg qw qV uR' uk') (nI c) uR uk := by
      intro d
      induction d with
      | zero =>
        intro c hcd hac hall
        exact absurd (hall z hz1 (by omega)) hz3
      | succ d ih =>
        intro c hcd hac hall
        refine F_X7_cut_37 _ _ _ _ _ _ _ _ ?_
        refine pk_lt b c (fun q => absurd q (by omega)) (fun _ => ?_)
        rw [ix_o, q_cl (1 + c) (by omega), hmR.O c (by omega)]
        have hoc := ho' c (by omega)
        refine ⟨q_in (by omega), pm_eq (o c) 0 (fun e => ?_) (fun _ => ⟨rfl, hS0.same⟩)⟩
        rw [nI_1]
        refine ih (c + 1) (by omega) (by omega) (fun i i1 i2 => ?_)
        by_cases e2 : i = c
        · rw [e2]; exact e
        · exact hall i i1 (by omega)
    exact key (b + 1 - a) a (by omega) (Nat.le_refl a) (fun i i1 i2 => absurd i2 (by omega))
end OPS
