/-! what each look asks, by what it tells -/
section ASKS
variable {n k g : Nat} {o : Nat → Nat} {v : Nat → Nat → Nat} {h : Nat → CA}
theorem ar_le {v : Nat → Nat → Nat} {o : Nat → Nat} {n : Nat} (hn : n ≤ 4) : ar v o n ≤ 16 := by
  have h1 : ∀ g, g < n → sg (ar1 v o g) 0 n ≤ 4 := fun g _ => by
    have := sg_le (f := ar1 v o g) (k := 1) n 0 (fun c _ _ => by unfold ar1; split <;> omega)
    omega
  have := sg_le (f := fun g => sg (ar1 v o g) 0 n) (k := 4) n 0 (fun c _ hc => h1 c (by omega))
  unfold ar
  omega
theorem q_count0 {Z : Int32 → Prop} (hz : Z (nI n)) : Wq_count ((n, o, v), k, h) (0 : Int32) Z := by
  intro ss cg cw cV qg qw qV xl hS
  have hS0 := hS
  obtain ⟨⟨hn, ho', hv⟩, hk, hh, hss, ⟨hcg, hcw, hcV⟩, hcH⟩ := hS
  have hn : n ≤ 4 := hn
  have ho' : okO n o := ho'
  have hv : okV v := hv
  have hk : k ≤ 5 := hk
  have hh : okH k h := hh
  have hss : ss = nI k := hss
  have hcg : cg = nI n := hcg
  have hcw : rW o cw := hcw
  have hcV : rV v cV := hcV
  have hcH : cH k h qg qw qV := hcH
  subst hss
  subst hcg
  exact ⟨fun _ => hz, fun q => absurd q (by decide), fun q => absurd q (by decide), fun q => absurd q (by decide), fun q => absurd q (by decide), fun q => absurd q (by decide), fun q => absurd q (by decide), fun q => absurd q (by decide), fun q => absurd q (by decide)⟩
theorem q_count1 {Z : Int32 → Prop} (hz : Z (nI (sg (cn o 0) 0 24))) : Wq_count ((n, o, v), k, h) (1 : Int32) Z := by
  intro ss cg cw cV qg qw qV xl hS
  have hS0 := hS
  obtain ⟨⟨hn, ho', hv⟩, hk, hh, hss, ⟨hcg, hcw, hcV⟩, hcH⟩ := hS
  have hn : n ≤ 4 := hn
  have ho' : okO n o := ho'
  have hv : okV v := hv
  have hk : k ≤ 5 := hk
  have hh : okH k h := hh
  have hss : ss = nI k := hss
  have hcg : cg = nI n := hcg
  have hcw : rW o cw := hcw
  have hcV : rV v cV := hcV
  have hcH : cH k h qg qw qV := hcH
  subst hss
  subst hcg
  refine ⟨fun q => absurd q (by decide), fun _ => ?_, fun q => absurd q (by decide), fun q => absurd q (by decide), fun q => absurd q (by decide), fun q => absurd q (by decide), fun q => absurd q (by decide), fun q => absurd q (by decide), fun q => absurd q (by decide)⟩
  exact w_crumbsOf (h := 0) hn ho' (by omega) hcw hz
theorem q_count2 {Z : Int32 → Prop} (hz : Z (nI (ar v o n))) : Wq_count ((n, o, v), k, h) (2 : Int32) Z := by
  intro ss cg cw cV qg qw qV xl hS
  have hS0 := hS
  obtain ⟨⟨hn, ho', hv⟩, hk, hh, hss, ⟨hcg, hcw, hcV⟩, hcH⟩ := hS
  have hn : n ≤ 4 := hn
  have ho' : okO n o := ho'
  have hv : okV v := hv
  have hk : k ≤ 5 := hk
  have hh : okH k h := hh
  have hss : ss = nI k := hss
  have hcg : cg = nI n := hcg
  have hcw : rW o cw := hcw
  have hcV : rV v cV := hcV
  have hcH : cH k h qg qw qV := hcH
  subst hss
  subst hcg
  refine ⟨fun q => absurd q (by decide), fun q => absurd q (by decide), fun _ => ?_, fun q => absurd q (by decide), fun q => absurd q (by decide), fun q => absurd q (by decide), fun q => absurd q (by decide), fun q => absurd q (by decide), fun q => absurd q (by decide)⟩
  exact w_arrows hn ho' hv hcw hcV hz
theorem q_count3 {Z : Int32 → Prop} (hz : Z (nI (ae v o n))) : Wq_count ((n, o, v), k, h) (3 : Int32) Z := by
  intro ss cg cw cV qg qw qV xl hS
  have hS0 := hS
  obtain ⟨⟨hn, ho', hv⟩, hk, hh, hss, ⟨hcg, hcw, hcV⟩, hcH⟩ := hS
  have hn : n ≤ 4 := hn
  have ho' : okO n o := ho'
  have hv : okV v := hv
  have hk : k ≤ 5 := hk
  have hh : okH k h := hh
  have hss : ss = nI k := hss
  have hcg : cg = nI n := hcg
  have hcw : rW o cw := hcw
  have hcV : rV v cV := hcV
  have hcH : cH k h qg qw qV := hcH
  subst hss
  subst hcg
  refine ⟨fun q => absurd q (by decide), fun q => absurd q (by decide), fun q => absurd q (by decide), fun _ => ?_, fun q => absurd q (by decide), fun q => absurd q (by decide), fun q => absurd q (by decide), fun q => absurd q (by decide), fun q => absurd q (by decide)⟩
  exact w_allEnvies hn ho' hv hcw hcV hz
theorem q_count5 {Z : Int32 → Prop} (hz : Z (nI (sg (ct1 v o n) 0 n))) : Wq_count ((n, o, v), k, h) (5 : Int32) Z := by
  intro ss cg cw cV qg qw qV xl hS
  have hS0 := hS
  obtain ⟨⟨hn, ho', hv⟩, hk, hh, hss, ⟨hcg, hcw, hcV⟩, hcH⟩ := hS
  have hn : n ≤ 4 := hn
  have ho' : okO n o := ho'
  have hv : okV v := hv
  have hk : k ≤ 5 := hk
  have hh : okH k h := hh
  have hss : ss = nI k := hss
  have hcg : cg = nI n := hcg
  have hcw : rW o cw := hcw
  have hcV : rV v cV := hcV
  have hcH : cH k h qg qw qV := hcH
  subst hss
  subst hcg
  refine ⟨fun q => absurd q (by decide), fun q => absurd q (by decide), fun q => absurd q (by decide), fun q => absurd q (by decide), fun q => absurd q (by decide), fun _ => ?_, fun q => absurd q (by decide), fun q => absurd q (by decide), fun q => absurd q (by decide)⟩
  exact w_contentGuests hn ho' hv hcw hcV hz
theorem q_count6 {Z : Int32 → Prop} (hz : Z (nI k)) : Wq_count ((n, o, v), k, h) (6 : Int32) Z := by
  intro ss cg cw cV qg qw qV xl hS
  have hS0 := hS
  obtain ⟨⟨hn, ho', hv⟩, hk, hh, hss, ⟨hcg, hcw, hcV⟩, hcH⟩ := hS
  have hn : n ≤ 4 := hn
  have ho' : okO n o := ho'
  have hv : okV v := hv
  have hk : k ≤ 5 := hk
  have hh : okH k h := hh
  have hss : ss = nI k := hss
  have hcg : cg = nI n := hcg
  have hcw : rW o cw := hcw
  have hcV : rV v cV := hcV
  have hcH : cH k h qg qw qV := hcH
  subst hss
  subst hcg
  exact ⟨fun q => absurd q (by decide), fun q => absurd q (by decide), fun q => absurd q (by decide), fun q => absurd q (by decide), fun q => absurd q (by decide), fun q => absurd q (by decide), fun _ => hz, fun q => absurd q (by decide), fun q => absurd q (by decide)⟩
theorem q_count4 {Z : Int32 → Prop} (h1 : ar v o n = 0 → Z 1) (h0 : ar v o n ≠ 0 → Z 0) : Wq_count ((n, o, v), k, h) (4 : Int32) Z := by
  intro ss cg cw cV qg qw qV xl hS
  have hS0 := hS
  obtain ⟨⟨hn, ho', hv⟩, hk, hh, hss, ⟨hcg, hcw, hcV⟩, hcH⟩ := hS
  have hn : n ≤ 4 := hn
  have ho' : okO n o := ho'
  have hv : okV v := hv
  have hk : k ≤ 5 := hk
  have hh : okH k h := hh
  have hss : ss = nI k := hss
  have hcg : cg = nI n := hcg
  have hcw : rW o cw := hcw
  have hcV : rV v cV := hcV
  have hcH : cH k h qg qw qV := hcH
  subst hss
  subst hcg
  refine ⟨fun q => absurd q (by decide), fun q => absurd q (by decide), fun q => absurd q (by decide), fun q => absurd q (by decide), fun _ => ?_, fun q => absurd q (by decide), fun q => absurd q (by decide), fun q => absurd q (by decide), fun q => absurd q (by decide)⟩
  refine w_arrows hn ho' hv hcw hcV ?_
  have hb := ar_le (v := v) (o := o) hn
  exact pq_ne (ar v o n) 0 (fun q => h0 q) (fun q => h1 q)
theorem q_guest0 {Z : Int32 → Prop} (hg : g < n) (hz : Z (nI (To v g))) : Wq_guest ((n, o, v), k, h) (nI g) (0 : Int32) Z := by
  intro ss cg cw cV qg qw qV hS
  have hS0 := hS
  obtain ⟨⟨hn, ho', hv⟩, hk, hh, hss, ⟨hcg, hcw, hcV⟩, hcH⟩ := hS
  have hn : n ≤ 4 := hn
  have ho' : okO n o := ho'
  have hv : okV v := hv
  have hk : k ≤ 5 := hk
  have hh : okH k h := hh
  have hss : ss = nI k := hss
  have hcg : cg = nI n := hcg
  have hcw : rW o cw := hcw
  have hcV : rV v cV := hcV
  have hcH : cH k h qg qw qV := hcH
  subst hss
  subst hcg
  have hg4 : g < 4 := by omega
  have hWT := Wo_To (v := v) (o := o) (g := g) (h := g + 1)
  have hT := To_le hv hg4
  refine w_isGuest hn (fun _ _ _ => ?_) (fun hno => absurd rfl (hno g hg))
  refine ⟨fun _ => ?_, fun q => absurd q (by decide)⟩
  refine ⟨fun _ => ?_, fun q => absurd q (by decide), fun q => absurd q (by decide), fun q => absurd q (by decide), fun q => absurd q (by decide), fun q => absurd q (by decide), fun q => absurd q (by decide), fun q => absurd q (by decide)⟩
  exact w_total hg4 hcV hz
theorem q_guest1 {Z : Int32 → Prop} (hg : g < n) (hz : Z (nI (Wo v o g (g + 1)))) : Wq_guest ((n, o, v), k, h) (nI g) (1 : Int32) Z := by
  intro ss cg cw cV qg qw qV hS
  have hS0 := hS
  obtain ⟨⟨hn, ho', hv⟩, hk, hh, hss, ⟨hcg, hcw, hcV⟩, hcH⟩ := hS
  have hn : n ≤ 4 := hn
  have ho' : okO n o := ho'
  have hv : okV v := hv
  have hk : k ≤ 5 := hk
  have hh : okH k h := hh
  have hss : ss = nI k := hss
  have hcg : cg = nI n := hcg
  have hcw : rW o cw := hcw
  have hcV : rV v cV := hcV
  have hcH : cH k h qg qw qV := hcH
  subst hss
  subst hcg
  have hg4 : g < 4 := by omega
  have hWT := Wo_To (v := v) (o := o) (g := g) (h := g + 1)
  have hT := To_le hv hg4
  refine w_isGuest hn (fun _ _ _ => ?_) (fun hno => absurd rfl (hno g hg))
  refine ⟨fun _ => ?_, fun q => absurd q (by decide)⟩
  refine ⟨fun q => absurd q (by decide), fun _ => ?_, fun q => absurd q (by decide), fun q => absurd q (by decide), fun q => absurd q (by decide), fun q => absurd q (by decide), fun q => absurd q (by decide), fun q => absurd q (by decide)⟩
  exact w_worth (h := g + 1) hn ho' hg4 (by omega) hcw hcV hz
theorem q_guest2 {Z : Int32 → Prop} (hg : g < n) (hz : Z (nI (sg (cn o (g + 1)) 0 24))) : Wq_guest ((n, o, v), k, h) (nI g) (2 : Int32) Z := by
  intro ss cg cw cV qg qw qV hS
  have hS0 := hS
  obtain ⟨⟨hn, ho', hv⟩, hk, hh, hss, ⟨hcg, hcw, hcV⟩, hcH⟩ := hS
  have hn : n ≤ 4 := hn
  have ho' : okO n o := ho'
  have hv : okV v := hv
  have hk : k ≤ 5 := hk
  have hh : okH k h := hh
  have hss : ss = nI k := hss
  have hcg : cg = nI n := hcg
  have hcw : rW o cw := hcw
  have hcV : rV v cV := hcV
  have hcH : cH k h qg qw qV := hcH
  subst hss
  subst hcg
  have hg4 : g < 4 := by omega
  have hWT := Wo_To (v := v) (o := o) (g := g) (h := g + 1)
  have hT := To_le hv hg4
  refine w_isGuest hn (fun _ _ _ => ?_) (fun hno => absurd rfl (hno g hg))
  refine ⟨fun _ => ?_, fun q => absurd q (by decide)⟩
  refine ⟨fun q => absurd q (by decide), fun q => absurd q (by decide), fun _ => ?_, fun q => absurd q (by decide), fun q => absurd q (by decide), fun q => absurd q (by decide), fun q => absurd q (by decide), fun q => absurd q (by decide)⟩
  exact w_crumbsOf (h := g + 1) hn ho' (by omega) hcw hz
theorem q_guest3 {Z : Int32 → Prop} (hg : g < n) (hz : Z (nI (Wo v o g (g + 1) / Nat.gcd (Wo v o g (g + 1)) (To v g)))) : Wq_guest ((n, o, v), k, h) (nI g) (3 : Int32) Z := by
  intro ss cg cw cV qg qw qV hS
  have hS0 := hS
  obtain ⟨⟨hn, ho', hv⟩, hk, hh, hss, ⟨hcg, hcw, hcV⟩, hcH⟩ := hS
  have hn : n ≤ 4 := hn
  have ho' : okO n o := ho'
  have hv : okV v := hv
  have hk : k ≤ 5 := hk
  have hh : okH k h := hh
  have hss : ss = nI k := hss
  have hcg : cg = nI n := hcg
  have hcw : rW o cw := hcw
  have hcV : rV v cV := hcV
  have hcH : cH k h qg qw qV := hcH
  subst hss
  subst hcg
  have hg4 : g < 4 := by omega
  have hWT := Wo_To (v := v) (o := o) (g := g) (h := g + 1)
  have hT := To_le hv hg4
  refine w_isGuest hn (fun _ _ _ => ?_) (fun hno => absurd rfl (hno g hg))
  refine ⟨fun _ => ?_, fun q => absurd q (by decide)⟩
  refine ⟨fun q => absurd q (by decide), fun q => absurd q (by decide), fun q => absurd q (by decide), fun _ => ?_, fun q => absurd q (by decide), fun q => absurd q (by decide), fun q => absurd q (by decide), fun q => absurd q (by decide)⟩
  refine w_worth (h := g + 1) hn ho' hg4 (by omega) hcw hcV ?_
  refine w_total hg4 hcV ?_
  exact w_lnum hWT (by omega) hz
theorem q_guest4 {Z : Int32 → Prop} (hg : g < n) (hz : Z (nI (lden (Wo v o g (g + 1)) (To v g)))) : Wq_guest ((n, o, v), k, h) (nI g) (4 : Int32) Z := by
  intro ss cg cw cV qg qw qV hS
  have hS0 := hS
  obtain ⟨⟨hn, ho', hv⟩, hk, hh, hss, ⟨hcg, hcw, hcV⟩, hcH⟩ := hS
  have hn : n ≤ 4 := hn
  have ho' : okO n o := ho'
  have hv : okV v := hv
  have hk : k ≤ 5 := hk
  have hh : okH k h := hh
  have hss : ss = nI k := hss
  have hcg : cg = nI n := hcg
  have hcw : rW o cw := hcw
  have hcV : rV v cV := hcV
  have hcH : cH k h qg qw qV := hcH
  subst hss
  subst hcg
  have hg4 : g < 4 := by omega
  have hWT := Wo_To (v := v) (o := o) (g := g) (h := g + 1)
  have hT := To_le hv hg4
  refine w_isGuest hn (fun _ _ _ => ?_) (fun hno => absurd rfl (hno g hg))
  refine ⟨fun _ => ?_, fun q => absurd q (by decide)⟩
  refine ⟨fun q => absurd q (by decide), fun q => absurd q (by decide), fun q => absurd q (by decide), fun q => absurd q (by decide), fun _ => ?_, fun q => absurd q (by decide), fun q => absurd q (by decide), fun q => absurd q (by decide)⟩
  refine w_worth (h := g + 1) hn ho' hg4 (by omega) hcw hcV ?_
  refine w_total hg4 hcV ?_
  exact w_lden hWT (by omega) hz
theorem q_guest5 {Z : Int32 → Prop} (hg : g < n) (hz : Z (nI (sg (sp o (g + 1)) 0 24))) : Wq_guest ((n, o, v), k, h) (nI g) (5 : Int32) Z := by
  intro ss cg cw cV qg qw qV hS
  have hS0 := hS
  obtain ⟨⟨hn, ho', hv⟩, hk, hh, hss, ⟨hcg, hcw, hcV⟩, hcH⟩ := hS
  have hn : n ≤ 4 := hn
  have ho' : okO n o := ho'
  have hv : okV v := hv
  have hk : k ≤ 5 := hk
  have hh : okH k h := hh
  have hss : ss = nI k := hss
  have hcg : cg = nI n := hcg
  have hcw : rW o cw := hcw
  have hcV : rV v cV := hcV
  have hcH : cH k h qg qw qV := hcH
  subst hss
  subst hcg
  have hg4 : g < 4 := by omega
  have hWT := Wo_To (v := v) (o := o) (g := g) (h := g + 1)
  have hT := To_le hv hg4
  refine w_isGuest hn (fun _ _ _ => ?_) (fun hno => absurd rfl (hno g hg))
  refine ⟨fun _ => ?_, fun q => absurd q (by decide)⟩
  refine ⟨fun q => absurd q (by decide), fun q => absurd q (by decide), fun q => absurd q (by decide), fun q => absurd q (by decide), fun q => absurd q (by decide), fun _ => ?_, fun q => absurd q (by decide), fun q => absurd q (by decide)⟩
  exact w_spansOf (h := g + 1) hn ho' (by omega) hcw hz
theorem q_guest6 {Z : Int32 → Prop} (hg : g < n) (hz : Z (nI (Wo v o g 0))) : Wq_guest ((n, o, v), k, h) (nI g) (6 : Int32) Z := by
  intro ss cg cw cV qg qw qV hS
  have hS0 := hS
  obtain ⟨⟨hn, ho', hv⟩, hk, hh, hss, ⟨hcg, hcw, hcV⟩, hcH⟩ := hS
  have hn : n ≤ 4 := hn
  have ho' : okO n o := ho'
  have hv : okV v := hv
  have hk : k ≤ 5 := hk
  have hh : okH k h := hh
  have hss : ss = nI k := hss
  have hcg : cg = nI n := hcg
  have hcw : rW o cw := hcw
  have hcV : rV v cV := hcV
  have hcH : cH k h qg qw qV := hcH
  subst hss
  subst hcg
  have hg4 : g < 4 := by omega
  have hWT := Wo_To (v := v) (o := o) (g := g) (h := g + 1)
  have hT := To_le hv hg4
  refine w_isGuest hn (fun _ _ _ => ?_) (fun hno => absurd rfl (hno g hg))
  refine ⟨fun _ => ?_, fun q => absurd q (by decide)⟩
  refine ⟨fun q => absurd q (by decide), fun q => absurd q (by decide), fun q => absurd q (by decide), fun q => absurd q (by decide), fun q => absurd q (by decide), fun q => absurd q (by decide), fun _ => ?_, fun q => absurd q (by decide)⟩
  exact w_worth (h := 0) hn ho' hg4 (by omega) hcw hcV hz
theorem q_crumb {Z : Int32 → Prop} {c : Nat} (hc : c < 24) (hz : Z (oM (o c))) : Wq_crumb ((n, o, v), k, h) (nI c) Z := by
  intro ss cg cw cV qg qw qV hS
  have hS0 := hS
  obtain ⟨⟨hn, ho', hv⟩, hk, hh, hss, ⟨hcg, hcw, hcV⟩, hcH⟩ := hS
  have hn : n ≤ 4 := hn
  have ho' : okO n o := ho'
  have hv : okV v := hv
  have hk : k ≤ 5 := hk
  have hh : okH k h := hh
  have hss : ss = nI k := hss
  have hcg : cg = nI n := hcg
  have hcw : rW o cw := hcw
  have hcV : rV v cV := hcV
  have hcH : cH k h qg qw qV := hcH
  subst hss
  subst hcg
  refine pk_lt c 0 (fun q => absurd q (by omega)) (fun _ => ?_)
  refine pk_lt c 24 (fun _ => ⟨q_in hc, ?_⟩) (fun q => absurd q (by omega))
  rw [q_cl c, hcw c hc]
  have hoc := ho' c hc
  refine po_ne (o c) 0 (fun e => ?_) (fun e => ?_)
  · rw [oM_pos e] at hz
    rw [oI_pos e]
    exact hz
  · rw [e] at hz
    exact hz
theorem q_crumb24 {Z : Int32 → Prop} (hz : Z (-1)) : Wq_crumb ((n, o, v), k, h) (24 : Int32) Z := by
  intro ss cg cw cV qg qw qV hS
  have hS0 := hS
  obtain ⟨⟨hn, ho', hv⟩, hk, hh, hss, ⟨hcg, hcw, hcV⟩, hcH⟩ := hS
  have hn : n ≤ 4 := hn
  have ho' : okO n o := ho'
  have hv : okV v := hv
  have hk : k ≤ 5 := hk
  have hh : okH k h := hh
  have hss : ss = nI k := hss
  have hcg : cg = nI n := hcg
  have hcw : rW o cw := hcw
  have hcV : rV v cV := hcV
  have hcH : cH k h qg qw qV := hcH
  subst hss
  subst hcg
  exact ⟨fun q => absurd q (by decide), fun _ => ⟨fun q => absurd q (by decide), fun _ => hz⟩⟩
theorem q_value {Z : Int32 → Prop} {c : Nat} (hg : g < n) (hc : c < 24) (hz : Z (nI (v g c))) : Wq_value ((n, o, v), k, h) (nI g) (nI c) Z := by
  intro ss cg cw cV qg qw qV hS
  have hS0 := hS
  obtain ⟨⟨hn, ho', hv⟩, hk, hh, hss, ⟨hcg, hcw, hcV⟩, hcH⟩ := hS
  have hn : n ≤ 4 := hn
  have ho' : okO n o := ho'
  have hv : okV v := hv
  have hk : k ≤ 5 := hk
  have hh : okH k h := hh
  have hss : ss = nI k := hss
  have hcg : cg = nI n := hcg
  have hcw : rW o cw := hcw
  have hcV : rV v cV := hcV
  have hcH : cH k h qg qw qV := hcH
  subst hss
  subst hcg
  refine w_isGuest hn (fun _ _ _ => ?_) (fun hno => absurd rfl (hno g hg))
  refine ⟨fun q => absurd q (by decide), fun _ => ?_⟩
  refine pk_lt c 0 (fun q => absurd q (by omega)) (fun _ => ?_)
  refine pk_lt c 24 (fun _ => ⟨q_in (show g < 4 by omega), q_in hc, ?_⟩) (fun q => absurd q (by omega))
  rw [q_cl g, q_cl c, hcV g c (by omega) hc]
  exact hz
theorem q_envy {Z : Int32 → Prop} {j : Nat} (hg : g < n) (hj : j < n) (hgj : g ≠ j) (hz : Z (nI (En v o g j))) : Wq_envy ((n, o, v), k, h) (nI g) (nI j) Z := by
  intro ss cg cw cV qg qw qV hS
  have hS0 := hS
  obtain ⟨⟨hn, ho', hv⟩, hk, hh, hss, ⟨hcg, hcw, hcV⟩, hcH⟩ := hS
  have hn : n ≤ 4 := hn
  have ho' : okO n o := ho'
  have hv : okV v := hv
  have hk : k ≤ 5 := hk
  have hh : okH k h := hh
  have hss : ss = nI k := hss
  have hcg : cg = nI n := hcg
  have hcw : rW o cw := hcw
  have hcV : rV v cV := hcV
  have hcH : cH k h qg qw qV := hcH
  subst hss
  subst hcg
  refine w_isPair hn (fun _ _ _ _ _ _ _ => ?_) (fun hno => absurd (hno g j hg hj hgj rfl rfl) id)
  refine ⟨fun q => absurd q (by decide), fun _ => ?_⟩
  exact w_envyOf hn ho' hv (by omega) (by omega) hcw hcV hz
theorem q_middle {Z : Int32 → Prop} (hg : g < n) (hz : Z (nI (cutOf (v g) 0 23))) : Wq_middle ((n, o, v), k, h) (nI g) Z := by
  intro ss cg cw cV qg qw qV hS
  have hS0 := hS
  obtain ⟨⟨hn, ho', hv⟩, hk, hh, hss, ⟨hcg, hcw, hcV⟩, hcH⟩ := hS
  have hn : n ≤ 4 := hn
  have ho' : okO n o := ho'
  have hv : okV v := hv
  have hk : k ≤ 5 := hk
  have hh : okH k h := hh
  have hss : ss = nI k := hss
  have hcg : cg = nI n := hcg
  have hcw : rW o cw := hcw
  have hcV : rV v cV := hcV
  have hcH : cH k h qg qw qV := hcH
  subst hss
  subst hcg
  refine w_isGuest hn (fun _ _ _ => ?_) (fun hno => absurd rfl (hno g hg))
  refine ⟨fun q => absurd q (by decide), fun _ => ?_⟩
  exact w_findCut (a := 0) (b := 23) (by omega) (by omega) hv hcV (by omega) hz
theorem q_ring {Z : Int32 → Prop} {P : Nat} (hP : P < 2 ^ 31) (h1 : ∀ l, ringA (Eo v o) n = some l → Z (if P < l.length then nI (l.getD P 0) else -9)) (h0 : ringA (Eo v o) n = none → Z (-9)) : Wq_ring ((n, o, v), k, h) (nI P) Z := by
  intro ss cg cw cV qg qw qV nE nrT nrs nrg hS
  have hS0 := hS
  obtain ⟨⟨hn, ho', hv⟩, hk, hh, hss, ⟨hcg, hcw, hcV⟩, hcH⟩ := hS
  have hn : n ≤ 4 := hn
  have ho' : okO n o := ho'
  have hv : okV v := hv
  have hk : k ≤ 5 := hk
  have hh : okH k h := hh
  have hss : ss = nI k := hss
  have hcg : cg = nI n := hcg
  have hcw : rW o cw := hcw
  have hcV : rV v cV := hcV
  have hcH : cH k h qg qw qV := hcH
  subst hss
  subst hcg
  refine ⟨fun _ => ?_, fun q => absurd (nI_pos' hP) q⟩
  refine w_find hn ho' hv hcw hcV (fun l nE' rT' rg' hl hr => ?_) (fun hl nE' rT' rs' rg' => ?_)
  · obtain ⟨l2, l4, hln⟩ := ringA_len hn hl
    have z := h1 l hl
    refine pk_le l.length P (fun q => ?_) (fun q => ⟨q_in (by omega), ?_⟩) rfl rfl (by omega) hP
    · rw [if_neg (by omega)] at z
      exact z
    · rw [if_pos q] at z
      rw [q_cl P hP, hr P q]
      exact z
  · exact pk_le 0 P (fun q => h0 hl) (fun q => absurd q (by omega)) rfl rfl (by omega) hP
theorem q_best {Z : Int32 → Prop} {x : Nat} (h1 : 1 ≤ n) (hx : x ≤ 5) (hz : Z (bestV v n x)) : Wq_best ((n, o, v), k, h) (nI x) Z := by
  intro ss sq cg cw cV qg qw qV dFp dFt dFg dFS dQc dQg dQk dSp dST dTO dAH dPA dGR drT drs drg hS hCa hZ
  have hS0 := hS
  obtain ⟨⟨hn, ho', hv⟩, hk, hh, hss, ⟨hcg, hcw, hcV⟩, hcH⟩ := hS
  have hn : n ≤ 4 := hn
  have ho' : okO n o := ho'
  have hv : okV v := hv
  have hk : k ≤ 5 := hk
  have hh : okH k h := hh
  have hss : ss = nI k := hss
  have hcg : cg = nI n := hcg
  have hcw : rW o cw := hcw
  have hcV : rV v cV := hcV
  have hcH : cH k h qg qw qV := hcH
  subst hss
  subst hcg
  exact w_best (A := (n, o, v)) h1 hn hv hcV hCa hZ hx (fun _ _ _ _ _ _ _ _ _ _ _ _ _ _ _ _ _ hR hZ' => ⟨Or.inr hR, hZ', hz⟩)
theorem q_best0 {Z : Int32 → Prop} (hn0 : n = 0) (hz : Z (-2)) : Wq_best ((n, o, v), k, h) (0 : Int32) Z := by
  intro ss sq cg cw cV qg qw qV dFp dFt dFg dFS dQc dQg dQk dSp dST dTO dAH dPA dGR drT drs drg hS hCa hZ
  have hS0 := hS
  obtain ⟨⟨hn, ho', hv⟩, hk, hh, hss, ⟨hcg, hcw, hcV⟩, hcH⟩ := hS
  have hn : n ≤ 4 := hn
  have ho' : okO n o := ho'
  have hv : okV v := hv
  have hk : k ≤ 5 := hk
  have hh : okH k h := hh
  have hss : ss = nI k := hss
  have hcg : cg = nI n := hcg
  have hcw : rW o cw := hcw
  have hcV : rV v cV := hcV
  have hcH : cH k h qg qw qV := hcH
  subst hss
  subst hcg
  refine ⟨fun q => absurd q (by decide), fun _ => ⟨fun _ => ?_, fun q => absurd (by decide) q⟩⟩
  exact pk_le 1 n (fun q => absurd q (by omega)) (fun _ => ⟨hCa, hZ, hz⟩)
theorem q_best6 {Z : Int32 → Prop} (hz : Z (-1)) : Wq_best ((n, o, v), k, h) (6 : Int32) Z := by
  intro ss sq cg cw cV qg qw qV dFp dFt dFg dFS dQc dQg dQk dSp dST dTO dAH dPA dGR drT drs drg hS hCa hZ
  have hS0 := hS
  obtain ⟨⟨hn, ho', hv⟩, hk, hh, hss, ⟨hcg, hcw, hcV⟩, hcH⟩ := hS
  have hn : n ≤ 4 := hn
  have ho' : okO n o := ho'
  have hv : okV v := hv
  have hk : k ≤ 5 := hk
  have hh : okH k h := hh
  have hss : ss = nI k := hss
  have hcg : cg = nI n := hcg
  have hcw : rW o cw := hcw
  have hcV : rV v cV := hcV
  have hcH : cH k h qg qw qV := hcH
  subst hss
  subst hcg
  exact ⟨fun q => absurd q (by decide), fun _ => ⟨fun q => absurd q (by decide), fun _ => ⟨hCa, hZ, hz⟩⟩⟩
theorem q_calm0 {Z : Int32 → Prop} (hn0 : n = 0) (hz : Z (-2)) : Wq_calm ((n, o, v), k, h) (0 : Int32) Z := by
  intro ss sq cg cw cV qg qw qV dFp dFt dFg dFS dQc dQg dQk dSp dST dTO dAH dPA dGR drT drs drg hS hCa hZ
  have hS0 := hS
  obtain ⟨⟨hn, ho', hv⟩, hk, hh, hss, ⟨hcg, hcw, hcV⟩, hcH⟩ := hS
  have hn : n ≤ 4 := hn
  have ho' : okO n o := ho'
  have hv : okV v := hv
  have hk : k ≤ 5 := hk
  have hh : okH k h := hh
  have hss : ss = nI k := hss
  have hcg : cg = nI n := hcg
  have hcw : rW o cw := hcw
  have hcV : rV v cV := hcV
  have hcH : cH k h qg qw qV := hcH
  subst hss
  subst hcg
  refine ⟨fun q => absurd q (by decide), fun _ => ⟨fun _ => ?_, fun q => absurd (by decide) q⟩⟩
  exact pk_le 2 n (fun q => absurd q (by omega)) (fun _ => ⟨hCa, hZ, hz⟩)
theorem q_calls {Z : Int32 → Prop} {P s : Nat} (p1 : 1 ≤ P) (p2 : P ≤ 100) (s1 : 1 ≤ s) (s2 : s < 2 ^ n) (hz : Z (nI (mv v n (nI P) 24 0 (nI s) 0 0 o).2)) : Wq_calls ((n, o, v), k, h) (nI P) (nI s) Z := by
  intro ss cg cw cV qg qw qV mw hS
  have hS0 := hS
  obtain ⟨⟨hn, ho', hv⟩, hk, hh, hss, ⟨hcg, hcw, hcV⟩, hcH⟩ := hS
  have hn : n ≤ 4 := hn
  have ho' : okO n o := ho'
  have hv : okV v := hv
  have hk : k ≤ 5 := hk
  have hh : okH k h := hh
  have hss : ss = nI k := hss
  have hcg : cg = nI n := hcg
  have hcw : rW o cw := hcw
  have hcV : rV v cV := hcV
  have hcH : cH k h qg qw qV := hcH
  subst hss
  subst hcg
  refine w_isMove hn (fun _ _ _ _ _ _ _ _ => ?_) (fun hno => absurd (hno P s p1 p2 s1 s2 rfl rfl) id)
  refine ⟨fun q => absurd q (by decide), fun _ => ?_⟩
  exact w_pass hn ho' hcw hcV (fun mw' hW' => hz)
theorem q_calls0 {Z : Int32 → Prop} (hn0 : n = 0) (hz : Z (-1)) : Wq_calls ((n, o, v), k, h) (5 : Int32) (1 : Int32) Z := by
  intro ss cg cw cV qg qw qV mw hS
  have hS0 := hS
  obtain ⟨⟨hn, ho', hv⟩, hk, hh, hss, ⟨hcg, hcw, hcV⟩, hcH⟩ := hS
  have hn : n ≤ 4 := hn
  have ho' : okO n o := ho'
  have hv : okV v := hv
  have hk : k ≤ 5 := hk
  have hh : okH k h := hh
  have hss : ss = nI k := hss
  have hcg : cg = nI n := hcg
  have hcw : rW o cw := hcw
  have hcV : rV v cV := hcV
  have hcH : cH k h qg qw qV := hcH
  subst hss
  subst hcg
  subst hn0
  exact w_isMove hn (fun P s p1 p2 s1 s2 e1 e2 => absurd s2 (by rw [Nat.pow_zero]; omega)) (fun hno => ⟨fun _ => hz, fun q => absurd rfl q⟩)
end ASKS
