/-! what each action asks, by what it does -/
section ASKS
variable {n k g : Nat} {o : Nat → Nat} {v : Nat → Nat → Nat} {h : Nat → CA}
theorem actC {A : CA} {ss sq cg : Int32} {cw : Nat → Int32} {cV : Nat → Nat → Int32} {qg : Nat → Int32} {qw : Nat → Nat → Int32} {qV : Nat → Nat → Nat → Int32} (hS : StC A k h ss cg cw cV qg qw qV) {Z : Int32 → Int32 → (Nat → Int32) → (Nat → Nat → Int32) → (Nat → Nat → Nat → Int32) → Prop} (hz : ∀ qg' qw' qV', cH (recK k) (recH k h A) qg' qw' qV' → Z (nI (recK k)) 0 qg' qw' qV') : Wp_X6_record ss sq cg cw cV qg qw qV Z := by
  obtain ⟨h1, h2, h3, rfl, h5, h6⟩ := hS
  exact w_record h2 h5 h6 hz
theorem q_addGuest {Z : Int32 → Sg → Prop} (h4 : n < 4) (hz : Z (nI n) ((n + 1, o, sv n 1 0 24 v), recK k, recH k h (n, o, v))) : Wq_addGuest ((n, o, v), k, h) Z := by
  intro ss sq cg cw cV qg qw qV hS
  have hS0 := hS
  obtain ⟨⟨hn, ho', hv⟩, hk, hh, hss, ⟨hcg, hcw, hcV⟩, hcH⟩ := hS
  have hn : n ≤ 4 := hn
  have ho' : okO n o := ho'
  have hv : okV v := hv
  have hk : k ≤ 5 := hk
  have hh : okH k h := hh
  have hss : ss = nI k := hss
  have hcg : cg = nI n := hcg
  have hcw : rW o cw := hcw
  have hcV : rV v cV := hcV
  have hcH : cH k h qg qw qV := hcH
  subst hss
  subst hcg
  refine pk_lt n 4 (fun q => ?_) (fun q => absurd q (by omega))
  refine actC hS0 (fun qg' qw' qV' c1 => ?_)
  unfold Wp_X0_seatGuest
  refine w_setValues (g := n) (x := 1) (a := 0) (b := 23) (v := v) (by omega) (by omega) (by omega) hcV (fun cV' hV' => ?_)
  exact ⟨_, ⟨⟨by show n + 1 ≤ 4; omega, fun j hj => Nat.le_succ_of_le (ho' j hj), sv_ok (by omega) hv⟩, recK_le hk, recH_ok hk hh ⟨hn, ho', hv⟩, rfl, ⟨nI_1 n, hcw, hV'⟩, c1⟩, Or.inl rfl, hz⟩
theorem q_setValue {Z : Int32 → Sg → Prop} {a b y : Nat} (hg : g < n) (hab : a ≤ b) (hb : b < 24) (hy : y ≤ 9) (hz : Z (nI (To (sv g y a (b + 1 - a) v) g)) ((n, o, sv g y a (b + 1 - a) v), recK k, recH k h (n, o, v))) : Wq_setValue ((n, o, v), k, h) (nI g) (nI a) (nI b) (nI y) Z := by
  intro ss sq cg cw cV qg qw qV hS
  have hS0 := hS
  obtain ⟨⟨hn, ho', hv⟩, hk, hh, hss, ⟨hcg, hcw, hcV⟩, hcH⟩ := hS
  have hn : n ≤ 4 := hn
  have ho' : okO n o := ho'
  have hv : okV v := hv
  have hk : k ≤ 5 := hk
  have hh : okH k h := hh
  have hss : ss = nI k := hss
  have hcg : cg = nI n := hcg
  have hcw : rW o cw := hcw
  have hcV : rV v cV := hcV
  have hcH : cH k h qg qw qV := hcH
  subst hss
  subst hcg
  refine w_isGuest hn (fun _ _ _ => ?_) (fun hno => absurd rfl (hno g hg))
  refine ⟨fun q => absurd q (by decide), fun _ => ?_⟩
  refine w_isSpan (fun _ _ _ _ _ _ => ?_) (fun hno => absurd (hno a b hab hb rfl rfl) id)
  refine ⟨fun q => absurd q (by decide), fun _ => ?_⟩
  refine pk_lt y 0 (fun q => absurd q (by omega)) (fun _ => ?_)
  refine pk_le y 9 (fun _ => ?_) (fun q => absurd q (by omega))
  refine actC hS0 (fun qg' qw' qV' c1 => ?_)
  refine w_setValues (g := g) (x := y) (a := a) (b := b) (v := v) (by omega) hb (by omega) hcV (fun cV' hV' => ?_)
  refine w_total (by omega) hV' ?_
  exact ⟨_, ⟨⟨hn, ho', sv_ok hy hv⟩, recK_le hk, recH_ok hk hh ⟨hn, ho', hv⟩, rfl, ⟨rfl, hcw, hV'⟩, c1⟩, Or.inl rfl, hz⟩
theorem q_setValueBad {Z : Int32 → Sg → Prop} (hz : Z (-1) ((n, o, v), k, h)) : Wq_setValue ((n, o, v), k, h) (0 : Int32) (5 : Int32) (4 : Int32) (1 : Int32) Z := by
  intro ss sq cg cw cV qg qw qV hS
  have hS0 := hS
  obtain ⟨⟨hn, ho', hv⟩, hk, hh, hss, ⟨hcg, hcw, hcV⟩, hcH⟩ := hS
  have hn : n ≤ 4 := hn
  have ho' : okO n o := ho'
  have hv : okV v := hv
  have hk : k ≤ 5 := hk
  have hh : okH k h := hh
  have hss : ss = nI k := hss
  have hcg : cg = nI n := hcg
  have hcw : rW o cw := hcw
  have hcV : rV v cV := hcV
  have hcH : cH k h qg qw qV := hcH
  subst hss
  subst hcg
  refine w_isGuest hn (fun _ _ _ => ?_) (fun _ => ⟨fun _ => ⟨((n, o, v), k, h), hS0, Or.inr ⟨rfl, rfl⟩, hz⟩, fun q => absurd rfl q⟩)
  refine ⟨fun q => absurd q (by decide), fun _ => ?_⟩
  refine w_isSpan (fun a b hab hb e1 e2 => ?_) (fun _ => ⟨fun _ => ⟨((n, o, v), k, h), hS0, Or.inr ⟨rfl, rfl⟩, hz⟩, fun q => absurd rfl q⟩)
  have a1 := (nI_eq (a := 5) (by omega) (by omega)).mp e1
  have a2 := (nI_eq (a := 4) (by omega) (by omega)).mp e2
  omega
theorem q_give {Z : Int32 → Sg → Prop} {a b : Nat} (hg : g < n) (hab : a ≤ b) (hb : b < 24) (hz : Z (nI (ho (g + 1) (b + 1 - a) a o 0).2) ((n, (ho (g + 1) (b + 1 - a) a o 0).1, v), recK k, recH k h (n, o, v))) : Wq_give ((n, o, v), k, h) (nI g) (nI a) (nI b) Z := by
  intro ss sq cg cw cV qg qw qV hS
  have hS0 := hS
  obtain ⟨⟨hn, ho', hv⟩, hk, hh, hss, ⟨hcg, hcw, hcV⟩, hcH⟩ := hS
  have hn : n ≤ 4 := hn
  have ho' : okO n o := ho'
  have hv : okV v := hv
  have hk : k ≤ 5 := hk
  have hh : okH k h := hh
  have hss : ss = nI k := hss
  have hcg : cg = nI n := hcg
  have hcw : rW o cw := hcw
  have hcV : rV v cV := hcV
  have hcH : cH k h qg qw qV := hcH
  subst hss
  subst hcg
  refine w_isGuest hn (fun _ _ _ => ?_) (fun hno => absurd rfl (hno g hg))
  refine ⟨fun q => absurd q (by decide), fun _ => ?_⟩
  refine w_isSpan (fun _ _ _ _ _ _ => ?_) (fun hno => absurd (hno a b hab hb rfl rfl) id)
  refine ⟨fun _ => ?_, fun q => absurd q (by decide)⟩
  refine actC hS0 (fun qg' qw' qV' c1 => ?_)
  refine w_handOut (h := g + 1) hn ho' (by omega) hb (by omega) hcw (fun cw' hW' => ?_)
  exact ⟨_, ⟨⟨hn, ho_ok (by show g + 1 ≤ n; omega) _ _ _ _ ho', hv⟩, recK_le hk, recH_ok hk hh ⟨hn, ho', hv⟩, rfl, ⟨rfl, hW', hcV⟩, c1⟩, Or.inl rfl, hz⟩
theorem q_give4 {Z : Int32 → Sg → Prop} (hz : Z (-1) ((n, o, v), k, h)) : Wq_give ((n, o, v), k, h) (4 : Int32) (0 : Int32) (0 : Int32) Z := by
  intro ss sq cg cw cV qg qw qV hS
  have hS0 := hS
  obtain ⟨⟨hn, ho', hv⟩, hk, hh, hss, ⟨hcg, hcw, hcV⟩, hcH⟩ := hS
  have hn : n ≤ 4 := hn
  have ho' : okO n o := ho'
  have hv : okV v := hv
  have hk : k ≤ 5 := hk
  have hh : okH k h := hh
  have hss : ss = nI k := hss
  have hcg : cg = nI n := hcg
  have hcw : rW o cw := hcw
  have hcV : rV v cV := hcV
  have hcH : cH k h qg qw qV := hcH
  subst hss
  subst hcg
  refine w_isGuest hn (fun g hg e => ?_) (fun _ => ⟨fun _ => ⟨((n, o, v), k, h), hS0, Or.inr ⟨rfl, rfl⟩, hz⟩, fun q => absurd rfl q⟩)
  have a1 := (nI_eq (a := 4) (by omega) (by omega)).mp e
  omega
theorem q_putBack {Z : Int32 → Sg → Prop} {a b : Nat} (hab : a ≤ b) (hb : b < 24) (hz : Z (nI (tb (b + 1 - a) a o 0).2) ((n, (tb (b + 1 - a) a o 0).1, v), recK k, recH k h (n, o, v))) : Wq_putBack ((n, o, v), k, h) (nI a) (nI b) Z := by
  intro ss sq cg cw cV qg qw qV hS
  have hS0 := hS
  obtain ⟨⟨hn, ho', hv⟩, hk, hh, hss, ⟨hcg, hcw, hcV⟩, hcH⟩ := hS
  have hn : n ≤ 4 := hn
  have ho' : okO n o := ho'
  have hv : okV v := hv
  have hk : k ≤ 5 := hk
  have hh : okH k h := hh
  have hss : ss = nI k := hss
  have hcg : cg = nI n := hcg
  have hcw : rW o cw := hcw
  have hcV : rV v cV := hcV
  have hcH : cH k h qg qw qV := hcH
  subst hss
  subst hcg
  refine w_isSpan (fun _ _ _ _ _ _ => ?_) (fun hno => absurd (hno a b hab hb rfl rfl) id)
  refine ⟨fun _ => ?_, fun q => absurd q (by decide)⟩
  refine actC hS0 (fun qg' qw' qV' c1 => ?_)
  refine w_takeBack hn ho' hb (by omega) hcw (fun cw' hW' => ?_)
  exact ⟨_, ⟨⟨hn, tb_ok _ _ _ _ ho', hv⟩, recK_le hk, recH_ok hk hh ⟨hn, ho', hv⟩, rfl, ⟨rfl, hW', hcV⟩, c1⟩, Or.inl rfl, hz⟩
theorem q_putBack24 {Z : Int32 → Sg → Prop} (hz : Z (-1) ((n, o, v), k, h)) : Wq_putBack ((n, o, v), k, h) (0 : Int32) (24 : Int32) Z := by
  intro ss sq cg cw cV qg qw qV hS
  have hS0 := hS
  obtain ⟨⟨hn, ho', hv⟩, hk, hh, hss, ⟨hcg, hcw, hcV⟩, hcH⟩ := hS
  have hn : n ≤ 4 := hn
  have ho' : okO n o := ho'
  have hv : okV v := hv
  have hk : k ≤ 5 := hk
  have hh : okH k h := hh
  have hss : ss = nI k := hss
  have hcg : cg = nI n := hcg
  have hcw : rW o cw := hcw
  have hcV : rV v cV := hcV
  have hcH : cH k h qg qw qV := hcH
  subst hss
  subst hcg
  refine w_isSpan (fun a b hab hb e1 e2 => ?_) (fun _ => ⟨fun q => absurd rfl q, fun _ => ⟨((n, o, v), k, h), hS0, Or.inr ⟨rfl, rfl⟩, hz⟩⟩)
  have a2 := (nI_eq (a := 24) (by omega) (by omega)).mp e2
  omega
theorem q_move {Z : Int32 → Sg → Prop} {P s : Nat} (p1 : 1 ≤ P) (p2 : P ≤ 100) (s1 : 1 ≤ s) (s2 : s < 2 ^ n) (hz : Z (nI (mv v n (nI P) 24 0 (nI s) 0 0 o).2) ((n, (mv v n (nI P) 24 0 (nI s) 0 0 o).1, v), recK k, recH k h (n, o, v))) : Wq_move ((n, o, v), k, h) (nI P) (nI s) Z := by
  intro ss sq cg cw cV qg qw qV mw hS
  have hS0 := hS
  obtain ⟨⟨hn, ho', hv⟩, hk, hh, hss, ⟨hcg, hcw, hcV⟩, hcH⟩ := hS
  have hn : n ≤ 4 := hn
  have ho' : okO n o := ho'
  have hv : okV v := hv
  have hk : k ≤ 5 := hk
  have hh : okH k h := hh
  have hss : ss = nI k := hss
  have hcg : cg = nI n := hcg
  have hcw : rW o cw := hcw
  have hcV : rV v cV := hcV
  have hcH : cH k h qg qw qV := hcH
  subst hss
  subst hcg
  refine w_isMove hn (fun _ _ _ _ _ _ _ _ => ?_) (fun hno => absurd (hno P s p1 p2 s1 s2 rfl rfl) id)
  refine ⟨fun _ => ?_, fun q => absurd q (by decide)⟩
  refine actC hS0 (fun qg' qw' qV' c1 => ?_)
  refine w_pass hn ho' hcw hcV (fun mw' hW' => ?_)
  refine w_takeOwners hW' (fun cw' hcw' => ?_)
  exact ⟨_, ⟨⟨hn, mv_ok _ _ _ _ _ _ ho', hv⟩, recK_le hk, recH_ok hk hh ⟨hn, ho', hv⟩, rfl, ⟨rfl, hcw', hcV⟩, c1⟩, Or.inl rfl, hz⟩
theorem q_move101 {Z : Int32 → Sg → Prop} (hz : Z (-1) ((n, o, v), k, h)) : Wq_move ((n, o, v), k, h) (101 : Int32) (1 : Int32) Z := by
  intro ss sq cg cw cV qg qw qV mw hS
  have hS0 := hS
  obtain ⟨⟨hn, ho', hv⟩, hk, hh, hss, ⟨hcg, hcw, hcV⟩, hcH⟩ := hS
  have hn : n ≤ 4 := hn
  have ho' : okO n o := ho'
  have hv : okV v := hv
  have hk : k ≤ 5 := hk
  have hh : okH k h := hh
  have hss : ss = nI k := hss
  have hcg : cg = nI n := hcg
  have hcw : rW o cw := hcw
  have hcV : rV v cV := hcV
  have hcH : cH k h qg qw qV := hcH
  subst hss
  subst hcg
  refine w_isMove hn (fun P s p1 p2 s1 s2 e1 e2 => ?_) (fun _ => ⟨fun q => absurd rfl q, fun _ => ⟨((n, o, v), k, h), hS0, Or.inr ⟨rfl, rfl⟩, hz⟩⟩)
  have a1 := (nI_eq (a := 101) (by omega) (by omega)).mp e1
  omega
theorem q_move0 {Z : Int32 → Sg → Prop} (hz : Z (-1) ((n, o, v), k, h)) : Wq_move ((n, o, v), k, h) (5 : Int32) (0 : Int32) Z := by
  intro ss sq cg cw cV qg qw qV mw hS
  have hS0 := hS
  obtain ⟨⟨hn, ho', hv⟩, hk, hh, hss, ⟨hcg, hcw, hcV⟩, hcH⟩ := hS
  have hn : n ≤ 4 := hn
  have ho' : okO n o := ho'
  have hv : okV v := hv
  have hk : k ≤ 5 := hk
  have hh : okH k h := hh
  have hss : ss = nI k := hss
  have hcg : cg = nI n := hcg
  have hcw : rW o cw := hcw
  have hcV : rV v cV := hcV
  have hcH : cH k h qg qw qV := hcH
  subst hss
  subst hcg
  refine w_isMove hn (fun P s p1 p2 s1 s2 e1 e2 => ?_) (fun _ => ⟨fun q => absurd rfl q, fun _ => ⟨((n, o, v), k, h), hS0, Or.inr ⟨rfl, rfl⟩, hz⟩⟩)
  have a1 := (nI_eq (a := 0) (by omega) (b := s) (by have := q_pow n (by omega); omega)).mp e2
  omega
theorem q_cutBad {Z : Int32 → Sg → Prop} {j a b : Nat} (hb : b < 24) (hbad : g = j ∨ a = b) (hg : g < n) (hj : j < n) (hab : a ≤ b) (hz : Z (-1) ((n, o, v), k, h)) : Wq_cut ((n, o, v), k, h) (nI g) (nI j) (nI a) (nI b) Z := by
  intro ss sq cg cw cV qg qw qV hS
  have hS0 := hS
  obtain ⟨⟨hn, ho', hv⟩, hk, hh, hss, ⟨hcg, hcw, hcV⟩, hcH⟩ := hS
  have hn : n ≤ 4 := hn
  have ho' : okO n o := ho'
  have hv : okV v := hv
  have hk : k ≤ 5 := hk
  have hh : okH k h := hh
  have hss : ss = nI k := hss
  have hcg : cg = nI n := hcg
  have hcw : rW o cw := hcw
  have hcV : rV v cV := hcV
  have hcH : cH k h qg qw qV := hcH
  subst hss
  subst hcg
  refine w_isPair hn (fun g2 j2 hg2 hj2 hgj e1 e2 => ?_) (fun _ => ⟨fun _ => ⟨((n, o, v), k, h), hS0, Or.inr ⟨rfl, rfl⟩, hz⟩, fun q => absurd rfl q⟩)
  refine ⟨fun q => absurd q (by decide), fun _ => ?_⟩
  refine w_isSpan (fun _ _ _ _ _ _ => ?_) (fun _ => ⟨fun _ => ⟨((n, o, v), k, h), hS0, Or.inr ⟨rfl, rfl⟩, hz⟩, fun q => absurd rfl q⟩)
  refine ⟨fun q => absurd q (by decide), fun _ => ?_⟩
  have a1 := (nI_eq (by omega) (by omega)).mp e1
  have a2 := (nI_eq (by omega) (by omega)).mp e2
  exact pq_ne a b (fun q => absurd hbad (by omega)) (fun _ => ⟨((n, o, v), k, h), hS0, Or.inr ⟨rfl, rfl⟩, hz⟩)
theorem q_cutBusy {Z : Int32 → Sg → Prop} {j a b : Nat} (hg : g < n) (hj : j < n) (hgj : g ≠ j) (hab : a < b) (hb : b < 24) (hex : ∃ c, a ≤ c ∧ c ≤ b ∧ o c ≠ 0) (hz : Z (-2) ((n, o, v), k, h)) : Wq_cut ((n, o, v), k, h) (nI g) (nI j) (nI a) (nI b) Z := by
  intro ss sq cg cw cV qg qw qV hS
  have hS0 := hS
  obtain ⟨⟨hn, ho', hv⟩, hk, hh, hss, ⟨hcg, hcw, hcV⟩, hcH⟩ := hS
  have hn : n ≤ 4 := hn
  have ho' : okO n o := ho'
  have hv : okV v := hv
  have hk : k ≤ 5 := hk
  have hh : okH k h := hh
  have hss : ss = nI k := hss
  have hcg : cg = nI n := hcg
  have hcw : rW o cw := hcw
  have hcV : rV v cV := hcV
  have hcH : cH k h qg qw qV := hcH
  subst hss
  subst hcg
  refine w_isPair hn (fun _ _ _ _ _ _ _ => ?_) (fun hno => absurd (hno g j hg hj hgj rfl rfl) id)
  refine ⟨fun q => absurd q (by decide), fun _ => ?_⟩
  refine w_isSpan (fun _ _ _ _ _ _ => ?_) (fun hno => absurd (hno a b (by omega) hb rfl rfl) id)
  refine ⟨fun q => absurd q (by decide), fun _ => ?_⟩
  refine pq_ne a b (fun _ => ?_) (fun q => absurd q (by omega))
  refine w_liesOnTable hn ho' hb (by omega) hcw (fun hall => ?_) (fun _ => ⟨fun q => absurd rfl q, fun _ => ⟨((n, o, v), k, h), hS0, Or.inr ⟨rfl, rfl⟩, hz⟩⟩)
  obtain ⟨c, c1, c2, c3⟩ := hex
  exact absurd (hall c c1 c2) c3
theorem q_cutFree {Z : Int32 → Sg → Prop} {j a b : Nat} (hg : g < n) (hj : j < n) (hgj : g ≠ j) (hab : a < b) (hb : b < 24) (hall : ∀ c, a ≤ c → c ≤ b → o c = 0) (hz : ∀ x y, x < n → y < n → x ≠ y → Z (nI (cutOf (v g) a b)) ((n, (ho (y + 1) (b + 1 - cutOf (v g) a b) (cutOf (v g) a b) (ho (x + 1) (cutOf (v g) a b - a) a o 0).1 0).1, v), recK k, recH k h (n, o, v))) : Wq_cut ((n, o, v), k, h) (nI g) (nI j) (nI a) (nI b) Z := by
  intro ss sq cg cw cV qg qw qV hS
  have hS0 := hS
  obtain ⟨⟨hn, ho', hv⟩, hk, hh, hss, ⟨hcg, hcw, hcV⟩, hcH⟩ := hS
  have hn : n ≤ 4 := hn
  have ho' : okO n o := ho'
  have hv : okV v := hv
  have hk : k ≤ 5 := hk
  have hh : okH k h := hh
  have hss : ss = nI k := hss
  have hcg : cg = nI n := hcg
  have hcw : rW o cw := hcw
  have hcV : rV v cV := hcV
  have hcH : cH k h qg qw qV := hcH
  subst hss
  subst hcg
  refine w_isPair hn (fun _ _ _ _ _ _ _ => ?_) (fun hno => absurd (hno g j hg hj hgj rfl rfl) id)
  refine ⟨fun q => absurd q (by decide), fun _ => ?_⟩
  refine w_isSpan (fun _ _ _ _ _ _ => ?_) (fun hno => absurd (hno a b (by omega) hb rfl rfl) id)
  refine ⟨fun q => absurd q (by decide), fun _ => ?_⟩
  refine pq_ne a b (fun _ => ?_) (fun q => absurd q (by omega))
  refine w_liesOnTable hn ho' hb (by omega) hcw (fun _ => ?_) (fun hex => ?_)
  · refine ⟨fun _ => ?_, fun q => absurd q (by decide)⟩
    refine actC hS0 (fun qg' qw' qV' c1 => ?_)
    refine w_findCut (by omega) hb hv hcV hab ?_
    have hin := cutOf_in (f := v g) hab
    generalize cutOf (v g) a b = p at hin hz
    obtain ⟨p', rfl⟩ : ∃ p', p = p' + 1 := ⟨p - 1, by omega⟩
    show Wp_X0_spanWorth cV (nI j) (nI a) (nI (p' + 1) - 1) _
    rw [nI_pred]
    refine w_spanWorth (by omega) (by omega) hcV (by omega) ?_
    refine w_spanWorth (by omega) hb hcV (by omega) ?_
    have b1 : sg (v j) a (p' + 1 - a) ≤ 216 := sgv_le hv (by omega) (by omega)
    have b2 : sg (v j) (p' + 1) (b + 1 - (p' + 1)) ≤ 216 := sgv_le hv (by omega) (by omega)
    refine pk_lt (sg (v j) a (p' + 1 - a)) (sg (v j) (p' + 1) (b + 1 - (p' + 1))) (fun q => ?_) (fun q => ?_)
    · have hz := hz g j hg hj hgj
      refine ⟨fun _ => ?_, fun q2 => absurd rfl q2⟩
      show Wp_X0_handOut cw (nI g) (nI a) (nI (p' + 1) - 1) _
      rw [nI_pred]
      refine w_handOut (h := g + 1) hn ho' (by omega) (by omega) (by omega) hcw (fun cw2 hW2 => ?_)
      refine ⟨fun _ => ?_, fun q2 => absurd rfl q2⟩
      refine w_handOut (h := j + 1) hn (ho_ok (by omega) _ _ _ _ ho') (by omega) hb (by omega) hW2 (fun cw' hW' => ?_)
      exact ⟨_, ⟨⟨hn, ho_ok (by show j + 1 ≤ n; omega) _ _ _ _ (ho_ok (by omega) _ _ _ _ ho'), hv⟩, recK_le hk, recH_ok hk hh ⟨hn, ho', hv⟩, rfl, ⟨rfl, hW', hcV⟩, c1⟩, Or.inl rfl, hz⟩
    · have hz := hz j g hj hg (fun e => hgj e.symm)
      refine ⟨fun q2 => absurd q2 (by decide), fun _ => ?_⟩
      show Wp_X0_handOut cw (nI j) (nI a) (nI (p' + 1) - 1) _
      rw [nI_pred]
      refine w_handOut (h := j + 1) hn ho' (by omega) (by omega) (by omega) hcw (fun cw2 hW2 => ?_)
      refine ⟨fun q2 => absurd q2 (by decide), fun _ => ?_⟩
      refine w_handOut (h := g + 1) hn (ho_ok (by omega) _ _ _ _ ho') (by omega) hb (by omega) hW2 (fun cw' hW' => ?_)
      exact ⟨_, ⟨⟨hn, ho_ok (by show g + 1 ≤ n; omega) _ _ _ _ (ho_ok (by omega) _ _ _ _ ho'), hv⟩, recK_le hk, recH_ok hk hh ⟨hn, ho', hv⟩, rfl, ⟨rfl, hW', hcV⟩, c1⟩, Or.inl rfl, hz⟩
  · obtain ⟨c, c1, c2, c3⟩ := hex
    exact absurd (hall c c1 c2) c3
theorem q_trim {Z : Int32 → Sg → Prop} {j : Nat} (hg : g < n) (hj : j < n) (hgj : g ≠ j) (hz : Z (nI (tr v g j 24 o 0).2) ((n, (tr v g j 24 o 0).1, v), recK k, recH k h (n, o, v))) : Wq_trim ((n, o, v), k, h) (nI g) (nI j) Z := by
  intro ss sq cg cw cV qg qw qV hS
  have hS0 := hS
  obtain ⟨⟨hn, ho', hv⟩, hk, hh, hss, ⟨hcg, hcw, hcV⟩, hcH⟩ := hS
  have hn : n ≤ 4 := hn
  have ho' : okO n o := ho'
  have hv : okV v := hv
  have hk : k ≤ 5 := hk
  have hh : okH k h := hh
  have hss : ss = nI k := hss
  have hcg : cg = nI n := hcg
  have hcw : rW o cw := hcw
  have hcV : rV v cV := hcV
  have hcH : cH k h qg qw qV := hcH
  subst hss
  subst hcg
  refine w_isPair hn (fun _ _ _ _ _ _ _ => ?_) (fun hno => absurd (hno g j hg hj hgj rfl rfl) id)
  refine ⟨fun _ => ?_, fun q => absurd q (by decide)⟩
  refine actC hS0 (fun qg' qw' qV' c1 => ?_)
  refine w_trimPiece hn ho' hv hg hj hgj hcw hcV (fun cw' hW' => ?_)
  exact ⟨_, ⟨⟨hn, tr_ok _ _ _ ho', hv⟩, recK_le hk, recH_ok hk hh ⟨hn, ho', hv⟩, rfl, ⟨rfl, hW', hcV⟩, c1⟩, Or.inl rfl, hz⟩
theorem q_trimBad {Z : Int32 → Sg → Prop} (h1 : g < 2 ^ 31) (hz : Z (-1) ((n, o, v), k, h)) : Wq_trim ((n, o, v), k, h) (nI g) (nI g) Z := by
  intro ss sq cg cw cV qg qw qV hS
  have hS0 := hS
  obtain ⟨⟨hn, ho', hv⟩, hk, hh, hss, ⟨hcg, hcw, hcV⟩, hcH⟩ := hS
  have hn : n ≤ 4 := hn
  have ho' : okO n o := ho'
  have hv : okV v := hv
  have hk : k ≤ 5 := hk
  have hh : okH k h := hh
  have hss : ss = nI k := hss
  have hcg : cg = nI n := hcg
  have hcw : rW o cw := hcw
  have hcV : rV v cV := hcV
  have hcH : cH k h qg qw qV := hcH
  subst hss
  subst hcg
  refine w_isPair hn (fun g2 j2 hg2 hj2 hgj e1 e2 => ?_) (fun _ => ⟨fun q => absurd rfl q, fun _ => ⟨((n, o, v), k, h), hS0, Or.inr ⟨rfl, rfl⟩, hz⟩⟩)
  have a1 := (nI_eq h1 (by omega)).mp e1
  have a2 := (nI_eq h1 (by omega)).mp e2
  omega
theorem q_exchange {Z : Int32 → Sg → Prop} (h1 : ∀ l, ringA (Eo v o) n = some l → Z (nI l.length) ((n, fun c => xo l (o c), v), recK k, recH k h (n, o, v))) (h0 : ringA (Eo v o) n = none → Z (-2) ((n, o, v), k, h)) : Wq_exchange ((n, o, v), k, h) Z := by
  intro ss sq cg cw cV qg qw qV nE nrT nrs nrg hS
  have hS0 := hS
  obtain ⟨⟨hn, ho', hv⟩, hk, hh, hss, ⟨hcg, hcw, hcV⟩, hcH⟩ := hS
  have hn : n ≤ 4 := hn
  have ho' : okO n o := ho'
  have hv : okV v := hv
  have hk : k ≤ 5 := hk
  have hh : okH k h := hh
  have hss : ss = nI k := hss
  have hcg : cg = nI n := hcg
  have hcw : rW o cw := hcw
  have hcV : rV v cV := hcV
  have hcH : cH k h qg qw qV := hcH
  subst hss
  subst hcg
  refine w_find hn ho' hv hcw hcV (fun l nE' rT' rg' hl hr => ?_) (fun hl nE' rT' rs' rg' => ?_)
  · obtain ⟨l2, l4, hln⟩ := ringA_len hn hl
    have hz := h1 l hl
    refine pq_ne l.length 0 (fun _ => ?_) (fun q => absurd q (by omega))
    refine actC hS0 (fun qg' qw' qV' c1 => ?_)
    refine w_passPieces hn (by omega) (by omega) hr hln ho' hcw (fun cw' hcw' => ?_)
    exact ⟨_, ⟨⟨hn, fun c hc => xo_ok hln (ho' c hc), hv⟩, recK_le hk, recH_ok hk hh ⟨hn, ho', hv⟩, rfl, ⟨rfl, hcw', hcV⟩, c1⟩, Or.inl rfl, hz⟩
  · have hz := h0 hl
    exact ⟨fun q => absurd rfl q, fun _ => ⟨((n, o, v), k, h), hS0, Or.inr ⟨rfl, rfl⟩, hz⟩⟩
theorem q_undo0 {Z : Int32 → Sg → Prop} (hk0 : k = 0) (hz : Z (-2) ((n, o, v), k, h)) : Wq_undo ((n, o, v), k, h) Z := by
  intro ss sq cg cw cV qg qw qV hS
  have hS0 := hS
  obtain ⟨⟨hn, ho', hv⟩, hk, hh, hss, ⟨hcg, hcw, hcV⟩, hcH⟩ := hS
  have hn : n ≤ 4 := hn
  have ho' : okO n o := ho'
  have hv : okV v := hv
  have hk : k ≤ 5 := hk
  have hh : okH k h := hh
  have hss : ss = nI k := hss
  have hcg : cg = nI n := hcg
  have hcw : rW o cw := hcw
  have hcV : rV v cV := hcV
  have hcH : cH k h qg qw qV := hcH
  subst hss
  subst hcg
  subst hk0
  exact pk_lt 0 1 (fun _ => ⟨((n, o, v), 0, h), hS0, Or.inr ⟨rfl, rfl⟩, hz⟩) (fun q => absurd q (by omega))
theorem q_undo {Z : Int32 → Sg → Prop} (hz : Z (nI k) (h k, k, h)) : Wq_undo ((n, o, v), k + 1, h) Z := by
  intro ss sq cg cw cV qg qw qV hS
  have hS0 := hS
  obtain ⟨⟨hn, ho', hv⟩, hk, hh, hss, ⟨hcg, hcw, hcV⟩, hcH⟩ := hS
  have hn : n ≤ 4 := hn
  have ho' : okO n o := ho'
  have hv : okV v := hv
  have hk : k + 1 ≤ 5 := hk
  have hh : okH (k + 1) h := hh
  have hss : ss = nI (k + 1) := hss
  have hcg : cg = nI n := hcg
  have hcw : rW o cw := hcw
  have hcV : rV v cV := hcV
  have hcH : cH (k + 1) h qg qw qV := hcH
  subst hss
  subst hcg
  refine pk_lt (k + 1) 1 (fun q => absurd q (by omega)) (fun _ => ?_)
  refine pk_le (k + 1) 5 (fun _ => ?_) (fun q => absurd q (by omega))
  rw [nI_pred, q_cl k]
  refine ⟨q_in (by omega), ?_⟩
  refine w_become (hcH k (by omega)) (fun w' V' hA' => ?_)
  exact ⟨(h k, k, h), ⟨hh k (by omega), by show k ≤ 5; omega, fun i hi => hh i (by have : i < k := hi; omega), rfl, hA', fun i hi => hcH i (by have : i < k := hi; omega)⟩, Or.inl rfl, hz⟩
theorem q_read4 {Z : Int32 → Sg → Prop} (hz : Z (-1) ((n, o, v), k, h)) : Wq_read ((n, o, v), k, h) (4 : Int32) Z := by
  intro ss sq cg cw cV qg qw qV xl xS xV xt xp hS
  have hS0 := hS
  obtain ⟨⟨hn, ho', hv⟩, hk, hh, hss, ⟨hcg, hcw, hcV⟩, hcH⟩ := hS
  have hn : n ≤ 4 := hn
  have ho' : okO n o := ho'
  have hv : okV v := hv
  have hk : k ≤ 5 := hk
  have hh : okH k h := hh
  have hss : ss = nI k := hss
  have hcg : cg = nI n := hcg
  have hcw : rW o cw := hcw
  have hcV : rV v cV := hcV
  have hcH : cH k h qg qw qV := hcH
  subst hss
  subst hcg
  refine w_isGuest hn (fun g hg e => ?_) (fun _ => ⟨fun q => absurd rfl q, fun _ => ⟨((n, o, v), k, h), hS0, Or.inr ⟨rfl, rfl⟩, hz⟩⟩)
  have a1 := (nI_eq (a := 4) (by omega) (by omega)).mp e
  omega
end ASKS
