/-! the calls that look, class beside reference -/
theorem q_gcd (x y : Nat) (h : y ≠ 0) : Nat.gcd x y = Nat.gcd y (x % y) := by
  rw [Nat.gcd_comm x y, Nat.gcd_rec y x, Nat.gcd_comm]
theorem w_gcd {a b : Nat} {Z : Int32 → Prop} (ha : a < 2 ^ 30) (hb : b ≤ 1000) (hz : Z (nI (Nat.gcd a b))) : Wp_X6_commonDivisor (nI a) (nI b) Z := by
  have key : ∀ y, ∀ x c, x < 2 ^ 30 → y < 2 ^ 30 → y + c ≤ 1000000 → Nat.gcd x y = Nat.gcd a b → Wp_X6_commonDivisor_7 (nI a) (nI b) Z (nI x) (nI y) (nI c) := by
    intro y
    induction y using Nat.strongRecOn with
    | _ y ih =>
      intro x c hx hy hc hg
      refine F_X6_commonDivisor_7 _ _ _ _ _ _ ?_
      refine pk_eq y 0 (fun e => ?_) (fun e => ?_)
      · subst e
        rw [Nat.gcd_zero_right] at hg
        rw [hg]; exact hz
      · refine pk_le 1000000 c (fun q => absurd q (by omega)) (fun _ => ?_)
        rw [pk_rem (by omega) (by omega) (by omega), nI_1]
        have hm := Nat.mod_lt x (show y > 0 by omega)
        exact ih (x % y) hm y (c + 1) hy (by omega) (by omega) (by rw [← q_gcd x y e]; exact hg)
  exact key b a 0 ha (by omega) (by omega) rfl
theorem w7_gcd {a b : Nat} {Z : Int32 → Prop} (ha : a < 2 ^ 30) (hb : b < 2 ^ 30) (hz : Z (nI (Nat.gcd a b))) : Wp_X7_divisor (nI a) (nI b) Z := by
  have key : ∀ y, ∀ x, x < 2 ^ 30 → y < 2 ^ 30 → Nat.gcd x y = Nat.gcd a b → Wp_X7_divisor_4 (nI a) (nI b) Z (nI x) (nI y) := by
    intro y
    induction y using Nat.strongRecOn with
    | _ y ih =>
      intro x hx hy hg
      refine F_X7_divisor_4 _ _ _ _ _ ?_
      refine pk_le y 0 (fun e => ?_) (fun e => ?_)
      · have e0 : y = 0 := by omega
        subst e0
        rw [Nat.gcd_zero_right] at hg
        rw [hg]; exact hz
      · refine ⟨nI_ne0 e (by omega), ?_⟩
        rw [pk_rem (by omega) (by omega) (by omega)]
        have hm := Nat.mod_lt x (show y > 0 by omega)
        exact ih (x % y) hm y hy (by omega) (by rw [← q_gcd x y (by omega)]; exact hg)
  exact key b a ha hb rfl
theorem q_gcdle {a b : Nat} (hb : 0 < b) : 0 < Nat.gcd a b ∧ Nat.gcd a b ≤ b := ⟨Nat.gcd_pos_of_pos_right a hb, Nat.le_of_dvd hb (Nat.gcd_dvd_right a b)⟩
def lden (a b : Nat) : Nat := if b = 0 then 1 else b / Nat.gcd a b
theorem w_lnum {a b : Nat} {Z : Int32 → Prop} (hab : a ≤ b) (hb : b ≤ 1000) (hz : Z (nI (a / Nat.gcd a b))) : Wp_X6_lowestNumerator (nI a) (nI b) Z := by
  refine w_gcd (by omega) hb ?_
  refine pk_eq b 0 (fun e => ?_) (fun e => ?_)
  · have e2 : a = 0 := by omega
    subst e; subst e2
    exact hz
  · have hg := q_gcdle (a := a) (b := b) (by omega)
    refine pq_ne (Nat.gcd a b) 0 (fun _ => ?_) (fun q => absurd q (by omega))
    rw [pk_div (by omega) hg.1 (by omega)]
    exact hz
theorem w_lden {a b : Nat} {Z : Int32 → Prop} (hab : a ≤ b) (hb : b ≤ 1000) (hz : Z (nI (lden a b))) : Wp_X6_lowestDenominator (nI a) (nI b) Z := by
  refine w_gcd (by omega) hb ?_
  unfold lden at hz
  refine pk_eq b 0 (fun e => ?_) (fun e => ?_)
  · rw [if_pos e] at hz
    exact hz
  · rw [if_neg e] at hz
    have hg := q_gcdle (a := a) (b := b) (by omega)
    refine pq_ne (Nat.gcd a b) 0 (fun _ => ?_) (fun q => absurd q (by omega))
    rw [pk_div (by omega) hg.1 (by omega)]
    exact hz
theorem w7_partT {a b : Nat} {Z : Int32 → Prop} (hab : a ≤ b) (hb : b ≤ 1000) (hz : Z (nI (a / Nat.gcd a b))) : Wp_X7_part (nI a) (nI b) 1 Z := by
  refine pq_ne a 0 (fun e => ?_) (fun e => ?_)
  · refine w7_gcd (by omega) (by omega) ?_
    refine ⟨fun q => absurd q (by decide), fun _ => ?_⟩
    have hg := q_gcdle (a := a) (b := b) (by omega)
    refine ⟨nI_ne0 hg.1 (by omega), ?_⟩
    rw [pk_div (by omega) hg.1 (by omega)]
    exact hz
  · subst e
    rw [Nat.zero_div] at hz
    exact ⟨fun q => absurd q (by decide), fun _ => hz⟩
theorem w7_partF {a b : Nat} {Z : Int32 → Prop} (hab : a ≤ b) (hb : b ≤ 1000) (hz : Z (nI (lden a b))) : Wp_X7_part (nI a) (nI b) 0 Z := by
  unfold lden at hz
  refine pq_ne a 0 (fun e => ?_) (fun e => ?_)
  · rw [if_neg (by omega)] at hz
    refine w7_gcd (by omega) (by omega) ?_
    refine ⟨fun _ => ?_, fun q => absurd rfl q⟩
    have hg := q_gcdle (a := a) (b := b) (by omega)
    refine ⟨nI_ne0 hg.1 (by omega), ?_⟩
    rw [pk_div (by omega) hg.1 (by omega)]
    exact hz
  · subst e
    refine ⟨fun _ => ?_, fun q => absurd rfl q⟩
    by_cases hb0 : b = 0
    · rw [if_pos hb0] at hz; exact hz
    · rw [if_neg hb0, Nat.gcd_zero_left, Nat.div_self (by omega)] at hz; exact hz
theorem Wo_To {v : Nat → Nat → Nat} {o : Nat → Nat} {g h : Nat} : Wo v o g h ≤ To v g := by
  have key : ∀ d a, sg (wo v o g h) a d ≤ sg (v g) a d := by
    intro d
    induction d with
    | zero => intro a; exact Nat.le_refl _
    | succ d ih =>
      intro a
      have := ih (a + 1)
      have h1 : wo v o g h a ≤ v g a := by
        unfold wo
        split <;> omega
      show wo v o g h a + sg (wo v o g h) (a + 1) d ≤ v g a + sg (v g) (a + 1) d
      omega
  exact key 24 0
section LOOKS
variable {A : CA} {k : Nat} {h : Nat → CA} {ss sq cg : Int32} {cw : Nat → Int32} {cV : Nat → Nat → Int32} {qg : Nat → Int32} {qw : Nat → Nat → Int32} {qV : Nat → Nat → Nat → Int32} {uR : Nat → Int32} {uk : Int32}
theorem op_crumb (hS : St A k h ss cg cw cV qg qw qV uR uk) (x1 : Int32) : Wp_X6_crumb cw x1 (fun r => Wp_X7_crumb uR x1 (fun r' => r = r')) := by
  obtain ⟨⟨hn, ho', hv⟩, hk, hh, -, ⟨hcg, hcw, hcV⟩, hcH, hmR, -, hmH⟩ := hS
  have bad : (∀ c, c < 24 → x1 ≠ nI c) → Wp_X7_crumb uR x1 (fun r' => -1 = r') := fun hb => w7_in (l := 0) (u := 23) (by omega) (by omega) (fun c _ hc e => absurd e (hb c (by omega))) (fun _ => ⟨fun _ => rfl, fun q => absurd rfl q⟩)
  rcases pk_ix x1 (n := 24) (by omega) with q | q | ⟨c, hc, rfl⟩
  · exact ⟨fun _ => bad (fun c _ e => by subst e; exact nI_pos (by omega) q), fun q2 => absurd q q2⟩
  · have z := bad (fun c hc e => by subst e; exact nI_ge (show c < 24 by omega) (by omega) q)
    refine ⟨fun _ => z, fun _ => ⟨fun q2 => absurd q (Int32.not_le.mpr q2), fun _ => z⟩⟩
  · refine pk_lt c 0 (fun q => absurd q (by omega)) (fun _ => ?_)
    refine pk_lt c 24 (fun _ => ⟨q_in hc, ?_⟩) (fun q => absurd q (by omega))
    rw [q_cl c, hcw c hc]
    have hoc := ho' c hc
    have hn' : A.1 ≤ 4 := hn
    have ref : ∀ x : Int32, x = oM (A.2.1 c) → Wp_X7_crumb uR (nI c) (fun r' => x = r') := fun x e => by
      refine w7_in (l := 0) (u := 23) (by omega) (by omega) (fun _ _ _ _ => ?_) (fun hb => absurd rfl (hb c (by omega) (by omega)))
      refine ⟨fun q => absurd q (by decide), fun _ => ?_⟩
      rw [ix_o, q_cl (1 + c) (by omega), hmR.O c hc]
      exact ⟨q_in (by omega), e⟩
    refine po_ne (A.2.1 c) 0 (fun e => ref _ ?_) (fun e => ref _ ?_)
    · unfold oI oM
      rw [if_neg e, if_neg e]
    · rw [e]; rfl
theorem op_value (hS : St A k h ss cg cw cV qg qw qV uR uk) (x1 x2 : Int32) : Wp_X6_value cg cV x1 x2 (fun r => Wp_X7_value uR x1 x2 (fun r' => r = r')) := by
  obtain ⟨⟨hn, ho', hv⟩, hk, hh, -, ⟨hcg, hcw, hcV⟩, hcH, hmR, -, hmH⟩ := hS
  obtain ⟨n, o, v⟩ := A
  have hcg : cg = nI n := hcg
  subst hcg
  have hn : n ≤ 4 := hn
  have bad : (∀ g c, g < n → c < 24 → x1 = nI g → x2 = nI c → False) → Wp_X7_value uR x1 x2 (fun r' => -1 = r') := fun hb => by
    refine w7_isGuest hn hmR.R0 (fun g hg e => ?_) (fun _ => ⟨fun _ => rfl, fun q => absurd rfl q⟩)
    refine ⟨fun q => absurd q (by decide), fun _ => ?_⟩
    exact w7_in (l := 0) (u := 23) (by omega) (by omega) (fun c _ hc e2 => absurd (hb g c hg (by omega) e e2) id) (fun _ => ⟨fun _ => rfl, fun q => absurd rfl q⟩)
  refine w_isGuest hn (fun g hg e => ?_) (fun hno => ⟨fun _ => bad (fun g _ hg _ e _ => hno g hg e), fun q => absurd rfl q⟩)
  refine ⟨fun q => absurd q (by decide), fun _ => ?_⟩
  rcases pk_ix x2 (n := 24) (by omega) with q | q | ⟨c, hc, rfl⟩
  · exact ⟨fun _ => bad (fun _ c _ _ _ e => by subst e; exact nI_pos (by omega) q), fun q2 => absurd q q2⟩
  · have z := bad (fun _ c _ hc _ e => by subst e; exact nI_ge (show c < 24 by omega) (by omega) q)
    exact ⟨fun _ => z, fun _ => ⟨fun q2 => absurd q (Int32.not_le.mpr q2), fun _ => z⟩⟩
  · subst e
    refine pk_lt c 0 (fun q => absurd q (by omega)) (fun _ => ?_)
    refine pk_lt c 24 (fun _ => ⟨q_in (show g < 4 by omega), q_in hc, ?_⟩) (fun q => absurd q (by omega))
    rw [q_cl g, q_cl c, hcV g c (by omega) hc]
    refine w7_isGuest hn hmR.R0 (fun _ _ _ => ?_) (fun hno => absurd rfl (hno g hg))
    refine ⟨fun q => absurd q (by decide), fun _ => ?_⟩
    refine w7_in (l := 0) (u := 23) (by omega) (by omega) (fun _ _ _ _ => ?_) (fun hb => absurd rfl (hb c (by omega) (by omega)))
    exact ⟨fun q => absurd q (by decide), fun _ => w7_valueOf (by omega) hc hmR.V rfl⟩
theorem op_envy (hS : St A k h ss cg cw cV qg qw qV uR uk) (x1 x2 : Int32) : Wp_X6_envy cg cw cV x1 x2 (fun r => Wp_X7_envy uR x1 x2 (fun r' => r = r')) := by
  obtain ⟨⟨hn, ho', hv⟩, hk, hh, -, ⟨hcg, hcw, hcV⟩, hcH, hmR, -, hmH⟩ := hS
  obtain ⟨n, o, v⟩ := A
  have hcg : cg = nI n := hcg
  subst hcg
  have hn : n ≤ 4 := hn
  refine w_isPair hn (fun g j hg hj hgj e1 e2 => ?_) (fun hno => ⟨fun _ => ?_, fun q => absurd rfl q⟩)
  · refine ⟨fun q => absurd q (by decide), fun _ => ?_⟩
    subst e1; subst e2
    refine w_envyOf hn ho' hv (by omega) (by omega) hcw hcV ?_
    refine w7_areGuests hn hmR.R0 (fun _ _ _ _ _ _ _ => ?_) (fun hno => absurd (hno g j hg hj hgj rfl rfl) id)
    exact ⟨fun q => absurd q (by decide), fun _ => w7_envyOf hn ho' hv (by omega) (by omega) hmR.O hmR.V rfl⟩
  · exact w7_areGuests hn hmR.R0 (fun g j hg hj hgj e1 e2 => absurd (hno g j hg hj hgj e1 e2) id) (fun _ => ⟨fun _ => rfl, fun q => absurd rfl q⟩)
theorem op_middle (hS : St A k h ss cg cw cV qg qw qV uR uk) (x1 : Int32) : Wp_X6_middle cg cV x1 (fun r => Wp_X7_middle uR x1 (fun r' => r = r')) := by
  obtain ⟨⟨hn, ho', hv⟩, hk, hh, -, ⟨hcg, hcw, hcV⟩, hcH, hmR, -, hmH⟩ := hS
  obtain ⟨n, o, v⟩ := A
  have hcg : cg = nI n := hcg
  subst hcg
  have hn : n ≤ 4 := hn
  refine w_isGuest hn (fun g hg e => ?_) (fun hno => ⟨fun _ => ?_, fun q => absurd rfl q⟩)
  · refine ⟨fun q => absurd q (by decide), fun _ => ?_⟩
    subst e
    refine w_findCut (a := 0) (b := 23) (by omega) (by omega) hv hcV (by omega) ?_
    refine w7_isGuest hn hmR.R0 (fun _ _ _ => ?_) (fun hno => absurd rfl (hno g hg))
    exact ⟨fun q => absurd q (by decide), fun _ => w7_cutAt (a := 0) (b := 23) (by omega) (by omega) hv hmR.V (by omega) rfl⟩
  · exact w7_isGuest hn hmR.R0 (fun g hg e => absurd e (hno g hg)) (fun _ => ⟨fun _ => rfl, fun q => absurd rfl q⟩)
theorem op_count {L : Nat} {xl ul : Int32} (hxl : xl = nI L) (hul : ul = nI L) (hS : St A k h ss cg cw cV qg qw qV uR uk) (x1 : Int32) : Wp_X6_count ss cg cw cV xl x1 (fun r => Wp_X7_count uR uk ul x1 (fun r' => r = r')) := by
  obtain ⟨⟨hn, ho', hv⟩, hk, hh, rfl, ⟨hcg, hcw, hcV⟩, hcH, hmR, rfl, hmH⟩ := hS
  obtain ⟨n, o, v⟩ := A
  have hcg : cg = nI n := hcg
  subst hcg; subst hxl; subst hul
  have hn : n ≤ 4 := hn
  have hv : okV v := hv
  have ho' : okO n o := ho'
  have e0 : uR (0 : Int32).toNatClampNeg = nI n := hmR.R0
  rcases z_sw 7 x1 with hq | ⟨c, hc, rfl⟩
  · exact ⟨zs_no hq (j := 0) (by decide) (by decide), zs_no hq (j := 1) (by decide) (by decide), zs_no hq (j := 2) (by decide) (by decide), zs_no hq (j := 3) (by decide) (by decide), zs_no hq (j := 4) (by decide) (by decide), zs_no hq (j := 5) (by decide) (by decide), zs_no hq (j := 6) (by decide) (by decide), zs_no hq (j := 7) (by decide) (by decide), fun _ => ⟨zs_no hq (j := 0) (by decide) (by decide), zs_no hq (j := 1) (by decide) (by decide), zs_no hq (j := 2) (by decide) (by decide), zs_no hq (j := 3) (by decide) (by decide), zs_no hq (j := 4) (by decide) (by decide), zs_no hq (j := 5) (by decide) (by decide), zs_no hq (j := 6) (by decide) (by decide), zs_no hq (j := 7) (by decide) (by decide), fun _ => rfl⟩⟩
  rcases (show c = 0 ∨ c = 1 ∨ c = 2 ∨ c = 3 ∨ c = 4 ∨ c = 5 ∨ c = 6 ∨ c = 7 by omega) with rfl | rfl | rfl | rfl | rfl | rfl | rfl | rfl
  · exact ⟨fun _ => ⟨fun _ => ⟨q_in (k := 0) (by omega), e0.symm⟩, fun q => absurd q (by decide), fun q => absurd q (by decide), fun q => absurd q (by decide), fun q => absurd q (by decide), fun q => absurd q (by decide), fun q => absurd q (by decide), fun q => absurd q (by decide), fun q => absurd q (by decide)⟩, fun q => absurd q (by decide), fun q => absurd q (by decide), fun q => absurd q (by decide), fun q => absurd q (by decide), fun q => absurd q (by decide), fun q => absurd q (by decide), fun q => absurd q (by decide), fun q => absurd q (by decide)⟩
  · refine ⟨fun q => absurd q (by decide), fun _ => ?_, fun q => absurd q (by decide), fun q => absurd q (by decide), fun q => absurd q (by decide), fun q => absurd q (by decide), fun q => absurd q (by decide), fun q => absurd q (by decide), fun q => absurd q (by decide)⟩
    refine w_crumbsOf (h := 0) hn ho' (by omega) hcw ?_
    refine ⟨fun q => absurd q (by decide), fun _ => ?_, fun q => absurd q (by decide), fun q => absurd q (by decide), fun q => absurd q (by decide), fun q => absurd q (by decide), fun q => absurd q (by decide), fun q => absurd q (by decide), fun q => absurd q (by decide)⟩
    exact w7_onTable hn ho' hmR.O rfl
  · refine ⟨fun q => absurd q (by decide), fun q => absurd q (by decide), fun _ => ?_, fun q => absurd q (by decide), fun q => absurd q (by decide), fun q => absurd q (by decide), fun q => absurd q (by decide), fun q => absurd q (by decide), fun q => absurd q (by decide)⟩
    refine w_arrows hn ho' hv hcw hcV ?_
    refine ⟨fun q => absurd q (by decide), fun q => absurd q (by decide), fun _ => ?_, fun q => absurd q (by decide), fun q => absurd q (by decide), fun q => absurd q (by decide), fun q => absurd q (by decide), fun q => absurd q (by decide), fun q => absurd q (by decide)⟩
    exact w7_envies (b := false) hn ho' hv hmR.R0 hmR.O hmR.V (congrArg nI (if_neg (by decide)).symm)
  · refine ⟨fun q => absurd q (by decide), fun q => absurd q (by decide), fun q => absurd q (by decide), fun _ => ?_, fun q => absurd q (by decide), fun q => absurd q (by decide), fun q => absurd q (by decide), fun q => absurd q (by decide), fun q => absurd q (by decide)⟩
    refine w_allEnvies hn ho' hv hcw hcV ?_
    refine ⟨fun q => absurd q (by decide), fun q => absurd q (by decide), fun q => absurd q (by decide), fun _ => ?_, fun q => absurd q (by decide), fun q => absurd q (by decide), fun q => absurd q (by decide), fun q => absurd q (by decide), fun q => absurd q (by decide)⟩
    exact w7_envies (b := true) hn ho' hv hmR.R0 hmR.O hmR.V (congrArg nI (if_pos rfl).symm)
  · refine ⟨fun q => absurd q (by decide), fun q => absurd q (by decide), fun q => absurd q (by decide), fun q => absurd q (by decide), fun _ => ?_, fun q => absurd q (by decide), fun q => absurd q (by decide), fun q => absurd q (by decide), fun q => absurd q (by decide)⟩
    refine w_arrows hn ho' hv hcw hcV ?_
    have ea : (if false = true then ae v o n else ar v o n) = ar v o n := if_neg (by decide)
    have hb : ar v o n ≤ 16 := by
      have h1 : ∀ g, g < n → sg (ar1 v o g) 0 n ≤ 4 := fun g _ => by
        have := sg_le (f := ar1 v o g) (k := 1) n 0 (fun c _ _ => by unfold ar1; split <;> omega)
        omega
      have := sg_le (f := fun g => sg (ar1 v o g) 0 n) (k := 4) n 0 (fun c _ hc => h1 c (by omega))
      unfold ar
      omega
    refine pq_ne (ar v o n) 0 (fun q => ?_) (fun q => ?_)
    · refine ⟨fun q => absurd q (by decide), fun q => absurd q (by decide), fun q => absurd q (by decide), fun q => absurd q (by decide), fun _ => ?_, fun q => absurd q (by decide), fun q => absurd q (by decide), fun q => absurd q (by decide), fun q => absurd q (by decide)⟩
      refine w7_envies (b := false) hn ho' hv hmR.R0 hmR.O hmR.V ?_
      rw [ea]
      exact pq_ne (ar v o n) 0 (fun _ => rfl) (fun q2 => absurd q2 q)
    · refine ⟨fun q => absurd q (by decide), fun q => absurd q (by decide), fun q => absurd q (by decide), fun q => absurd q (by decide), fun _ => ?_, fun q => absurd q (by decide), fun q => absurd q (by decide), fun q => absurd q (by decide), fun q => absurd q (by decide)⟩
      refine w7_envies (b := false) hn ho' hv hmR.R0 hmR.O hmR.V ?_
      rw [ea]
      exact pq_ne (ar v o n) 0 (fun q2 => absurd q q2) (fun _ => rfl)
  · refine ⟨fun q => absurd q (by decide), fun q => absurd q (by decide), fun q => absurd q (by decide), fun q => absurd q (by decide), fun q => absurd q (by decide), fun _ => ?_, fun q => absurd q (by decide), fun q => absurd q (by decide), fun q => absurd q (by decide)⟩
    refine w_contentGuests hn ho' hv hcw hcV ?_
    refine ⟨fun q => absurd q (by decide), fun q => absurd q (by decide), fun q => absurd q (by decide), fun q => absurd q (by decide), fun q => absurd q (by decide), fun _ => ?_, fun q => absurd q (by decide), fun q => absurd q (by decide), fun q => absurd q (by decide)⟩
    exact w7_served hn ho' hv hmR.R0 hmR.O hmR.V rfl
  · exact ⟨fun q => absurd q (by decide), fun q => absurd q (by decide), fun q => absurd q (by decide), fun q => absurd q (by decide), fun q => absurd q (by decide), fun q => absurd q (by decide), fun _ => ⟨fun q => absurd q (by decide), fun q => absurd q (by decide), fun q => absurd q (by decide), fun q => absurd q (by decide), fun q => absurd q (by decide), fun q => absurd q (by decide), fun _ => rfl, fun q => absurd q (by decide), fun q => absurd q (by decide)⟩, fun q => absurd q (by decide), fun q => absurd q (by decide)⟩
  · exact ⟨fun q => absurd q (by decide), fun q => absurd q (by decide), fun q => absurd q (by decide), fun q => absurd q (by decide), fun q => absurd q (by decide), fun q => absurd q (by decide), fun q => absurd q (by decide), fun _ => ⟨fun q => absurd q (by decide), fun q => absurd q (by decide), fun q => absurd q (by decide), fun q => absurd q (by decide), fun q => absurd q (by decide), fun q => absurd q (by decide), fun q => absurd q (by decide), fun _ => rfl, fun q => absurd q (by decide)⟩, fun q => absurd q (by decide)⟩
theorem op_guest (hS : St A k h ss cg cw cV qg qw qV uR uk) (x1 x2 : Int32) : Wp_X6_guest cg cw cV x1 x2 (fun r => Wp_X7_guest uR x1 x2 (fun r' => r = r')) := by
  obtain ⟨⟨hn, ho', hv⟩, hk, hh, rfl, ⟨hcg, hcw, hcV⟩, hcH, hmR, rfl, hmH⟩ := hS
  obtain ⟨n, o, v⟩ := A
  have hcg : cg = nI n := hcg
  subst hcg
  have hn : n ≤ 4 := hn
  have hv : okV v := hv
  have ho' : okO n o := ho'
  refine w_isGuest hn (fun g hg e => ?_) (fun hno => ⟨fun q => absurd rfl q, fun _ => ?_⟩)
  · refine ⟨fun _ => ?_, fun q => absurd q (by decide)⟩
    subst e
    have hg4 : g < 4 := by omega
    have pre : ∀ {Z : Int32 → Prop}, ((x2 = 0 → Wp_X7_total uR (nI g) (fun r_3 => Z r_3)) ∧ (x2 = 1 → Wp_X7_pieceValue uR (nI g) (nI g) (fun r_4 => Z r_4)) ∧ (x2 = 2 → Wp_X7_crumbsOf uR (nI g) 0 (fun r_5 => Z r_5)) ∧ (x2 = 3 → Wp_X7_pieceValue uR (nI g) (nI g) (fun r_6 => Wp_X7_total uR (nI g) (fun r_7 => Wp_X7_part r_6 r_7 1 (fun r_8 => Z r_8)))) ∧ (x2 = 4 → Wp_X7_pieceValue uR (nI g) (nI g) (fun r_9 => Wp_X7_total uR (nI g) (fun r_10 => Wp_X7_part r_9 r_10 0 (fun r_11 => Z r_11)))) ∧ (x2 = 5 → Wp_X7_crumbsOf uR (nI g) 1 (fun r_12 => Z r_12)) ∧ (x2 = 6 → Wp_X7_pieceValue uR (nI g) (-9) (fun r_13 => Z r_13)) ∧ ((x2.toInt < 0 ∨ 6 < x2.toInt) → Z (-1))) → Wp_X7_guest uR (nI g) x2 Z := fun hq => by
      refine w7_isGuest hn hmR.R0 (fun _ _ _ => ?_) (fun hno => absurd rfl (hno g hg))
      exact ⟨fun _ => hq, fun q => absurd q (by decide)⟩
    have hWT := Wo_To (v := v) (o := o) (g := g) (h := g + 1)
    have hT := To_le hv hg4
    rcases z_sw 6 x2 with hq | ⟨c, hc, rfl⟩
    · exact ⟨zs_no hq (j := 0) (by decide) (by decide), zs_no hq (j := 1) (by decide) (by decide), zs_no hq (j := 2) (by decide) (by decide), zs_no hq (j := 3) (by decide) (by decide), zs_no hq (j := 4) (by decide) (by decide), zs_no hq (j := 5) (by decide) (by decide), zs_no hq (j := 6) (by decide) (by decide), fun _ => pre ⟨zs_no hq (j := 0) (by decide) (by decide), zs_no hq (j := 1) (by decide) (by decide), zs_no hq (j := 2) (by decide) (by decide), zs_no hq (j := 3) (by decide) (by decide), zs_no hq (j := 4) (by decide) (by decide), zs_no hq (j := 5) (by decide) (by decide), zs_no hq (j := 6) (by decide) (by decide), fun _ => rfl⟩⟩
    rcases (show c = 0 ∨ c = 1 ∨ c = 2 ∨ c = 3 ∨ c = 4 ∨ c = 5 ∨ c = 6 by omega) with rfl | rfl | rfl | rfl | rfl | rfl | rfl
    · refine ⟨fun _ => ?_, fun q => absurd q (by decide), fun q => absurd q (by decide), fun q => absurd q (by decide), fun q => absurd q (by decide), fun q => absurd q (by decide), fun q => absurd q (by decide), fun q => absurd q (by decide)⟩
      refine w_total hg4 hcV (pre ⟨fun _ => ?_, fun q => absurd q (by decide), fun q => absurd q (by decide), fun q => absurd q (by decide), fun q => absurd q (by decide), fun q => absurd q (by decide), fun q => absurd q (by decide), fun q => absurd q (by decide)⟩)
      exact w7_total hg4 hmR.V rfl
    · refine ⟨fun q => absurd q (by decide), fun _ => ?_, fun q => absurd q (by decide), fun q => absurd q (by decide), fun q => absurd q (by decide), fun q => absurd q (by decide), fun q => absurd q (by decide), fun q => absurd q (by decide)⟩
      refine w_worth (h := g + 1) hn ho' hg4 (by omega) hcw hcV (pre ⟨fun q => absurd q (by decide), fun _ => ?_, fun q => absurd q (by decide), fun q => absurd q (by decide), fun q => absurd q (by decide), fun q => absurd q (by decide), fun q => absurd q (by decide), fun q => absurd q (by decide)⟩)
      exact w7_pieceValue (h := g + 1) hn ho' hg4 (by omega) hmR.O hmR.V rfl
    · refine ⟨fun q => absurd q (by decide), fun q => absurd q (by decide), fun _ => ?_, fun q => absurd q (by decide), fun q => absurd q (by decide), fun q => absurd q (by decide), fun q => absurd q (by decide), fun q => absurd q (by decide)⟩
      refine w_crumbsOf (h := g + 1) hn ho' (by omega) hcw (pre ⟨fun q => absurd q (by decide), fun q => absurd q (by decide), fun _ => ?_, fun q => absurd q (by decide), fun q => absurd q (by decide), fun q => absurd q (by decide), fun q => absurd q (by decide), fun q => absurd q (by decide)⟩)
      exact w7_crumbsOf (h := g + 1) (b := false) hn ho' (by omega) hmR.O (congrArg nI (if_neg (by decide)).symm)
    · refine ⟨fun q => absurd q (by decide), fun q => absurd q (by decide), fun q => absurd q (by decide), fun _ => ?_, fun q => absurd q (by decide), fun q => absurd q (by decide), fun q => absurd q (by decide), fun q => absurd q (by decide)⟩
      refine w_worth (h := g + 1) hn ho' hg4 (by omega) hcw hcV ?_
      refine w_total hg4 hcV ?_
      refine w_lnum hWT (show To v g ≤ 1000 by omega) (pre ⟨fun q => absurd q (by decide), fun q => absurd q (by decide), fun q => absurd q (by decide), fun _ => ?_, fun q => absurd q (by decide), fun q => absurd q (by decide), fun q => absurd q (by decide), fun q => absurd q (by decide)⟩)
      refine w7_pieceValue (h := g + 1) hn ho' hg4 (by omega) hmR.O hmR.V ?_
      refine w7_total hg4 hmR.V ?_
      exact w7_partT hWT (show To v g ≤ 1000 by omega) rfl
    · refine ⟨fun q => absurd q (by decide), fun q => absurd q (by decide), fun q => absurd q (by decide), fun q => absurd q (by decide), fun _ => ?_, fun q => absurd q (by decide), fun q => absurd q (by decide), fun q => absurd q (by decide)⟩
      refine w_worth (h := g + 1) hn ho' hg4 (by omega) hcw hcV ?_
      refine w_total hg4 hcV ?_
      refine w_lden hWT (show To v g ≤ 1000 by omega) (pre ⟨fun q => absurd q (by decide), fun q => absurd q (by decide), fun q => absurd q (by decide), fun q => absurd q (by decide), fun _ => ?_, fun q => absurd q (by decide), fun q => absurd q (by decide), fun q => absurd q (by decide)⟩)
      refine w7_pieceValue (h := g + 1) hn ho' hg4 (by omega) hmR.O hmR.V ?_
      refine w7_total hg4 hmR.V ?_
      exact w7_partF hWT (show To v g ≤ 1000 by omega) rfl
    · refine ⟨fun q => absurd q (by decide), fun q => absurd q (by decide), fun q => absurd q (by decide), fun q => absurd q (by decide), fun q => absurd q (by decide), fun _ => ?_, fun q => absurd q (by decide), fun q => absurd q (by decide)⟩
      refine w_spansOf (h := g + 1) hn ho' (by omega) hcw (pre ⟨fun q => absurd q (by decide), fun q => absurd q (by decide), fun q => absurd q (by decide), fun q => absurd q (by decide), fun q => absurd q (by decide), fun _ => ?_, fun q => absurd q (by decide), fun q => absurd q (by decide)⟩)
      exact w7_crumbsOf (h := g + 1) (b := true) hn ho' (by omega) hmR.O (congrArg nI (if_pos rfl).symm)
    · refine ⟨fun q => absurd q (by decide), fun q => absurd q (by decide), fun q => absurd q (by decide), fun q => absurd q (by decide), fun q => absurd q (by decide), fun q => absurd q (by decide), fun _ => ?_, fun q => absurd q (by decide)⟩
      refine w_worth (h := 0) hn ho' hg4 (by omega) hcw hcV (pre ⟨fun q => absurd q (by decide), fun q => absurd q (by decide), fun q => absurd q (by decide), fun q => absurd q (by decide), fun q => absurd q (by decide), fun q => absurd q (by decide), fun _ => ?_, fun q => absurd q (by decide)⟩)
      exact w7_pieceValue (h := 0) hn ho' hg4 (by omega) hmR.O hmR.V rfl
  · exact w7_isGuest hn hmR.R0 (fun g hg e => absurd e (hno g hg)) (fun _ => ⟨fun q => absurd rfl q, fun _ => rfl⟩)
end LOOKS
/-- the texts of both sides: L signs t -/
def Tx (L : Nat) (t : Nat → Nat) (xl : Int32) (xS : Nat → Int32) (ul : Int32) (uX : Nat → Int32) : Prop := L ≤ 60 ∧ (∀ i, i < L → t i < 256) ∧ xl = nI L ∧ ul = nI L ∧ (∀ i, i < L → xS i = nI (t i)) ∧ (∀ i, i < L → uX i = nI (t i))
theorem op_append {L : Nat} {t : Nat → Nat} {xl ul : Int32} {xS uX : Nat → Int32} (hT : Tx L t xl xS ul uX) (x1 : Int32) : Wp_X6_append xl xS x1 (fun r xl' xS' => Wp_X7_append uX ul x1 (fun r' uX' ul' => r = r' ∧ ∃ L' t', Tx L' t' xl' xS' ul' uX')) := by
  have hT0 := hT
  obtain ⟨hL, ht, rfl, rfl, hx, hu⟩ := hT
  have bad : (∀ y, 1 ≤ y → y ≤ 255 → x1 ≠ nI y) → Wp_X7_append uX (nI L) x1 (fun r' uX' ul' => -1 = r' ∧ ∃ L' t', Tx L' t' (nI L) xS ul' uX') := fun hb => w7_in (l := 1) (u := 255) (by omega) (by omega) (fun y h1 h2 e => absurd e (hb y h1 h2)) (fun _ => ⟨fun q => absurd rfl q, fun _ => ⟨rfl, L, t, hT0⟩⟩)
  by_cases h1 : x1 < 1
  · exact ⟨fun _ => bad (fun y h1' _ e => by subst e; exact nI_nlt (a := y) (b := 1) h1' (by omega) h1), fun q => absurd h1 q⟩
  · refine ⟨fun q => absurd q h1, fun _ => ?_⟩
    have h0 : ¬ x1 < 0 := fun q => h1 (Int32.lt_trans q (by decide))
    obtain ⟨y, hy, rfl⟩ := nI_of h0
    refine pk_le y 255 (fun hy2 => ?_) (fun q => bad (fun y2 _ hy2 e => by
      have := (nI_eq (by omega) (by omega)).mp e
      omega))
    have hy1 : 1 ≤ y := by
      rcases Nat.lt_or_ge y 1 with q | q
      · exact absurd (nI_lt (a := y) (b := 1) q (by omega)) h1
      · exact q
    refine pk_lt L 60 (fun q => ?_) (fun q => ?_)
    · refine pk_le 60 L (fun q2 => absurd q2 (by omega)) (fun _ => ⟨q_in q, ?_⟩)
      refine w7_in (l := 1) (u := 255) (by omega) (by omega) (fun _ _ _ _ => ?_) (fun hb => absurd rfl (hb y hy1 hy2))
      refine ⟨fun _ => ?_, fun q => absurd q (by decide)⟩
      refine pq_ne L 60 (fun _ => ⟨q_in q, ?_⟩) (fun q2 => absurd q2 (by omega))
      rw [q_cl L, nI_1]
      refine ⟨rfl, L + 1, up t L y, by omega, fun i hi => ?_, rfl, rfl, fun i hi => ?_, fun i hi => ?_⟩
      · by_cases e : i = L
        · subst e; rw [up_s]; omega
        · rw [up_n e]; exact ht i (by omega)
      · by_cases e : i = L
        · subst e; rw [up_s, pk_us]
        · rw [up_n e, pk_un e]; exact hx i (by omega)
      · by_cases e : i = L
        · subst e; rw [up_s, pk_us]
        · rw [up_n e, pk_un e]; exact hu i (by omega)
    · refine w7_in (l := 1) (u := 255) (by omega) (by omega) (fun _ _ _ _ => ?_) (fun hb => absurd rfl (hb y hy1 hy2))
      refine ⟨fun _ => ?_, fun q => absurd q (by decide)⟩
      exact pq_ne L 60 (fun q2 => absurd (show L = 60 by omega) q2) (fun _ => ⟨rfl, L, t, hT0⟩)
theorem op_clearText {L : Nat} {t : Nat → Nat} {xl ul : Int32} {xS uX : Nat → Int32} (hT : Tx L t xl xS ul uX) : Wp_X6_clearText xl (fun r xl' => Wp_X7_clearText ul (fun r' ul' => r = r' ∧ ∃ L' t', Tx L' t' xl' xS ul' uX)) := by
  obtain ⟨hL, ht, rfl, rfl, hx, hu⟩ := hT
  exact ⟨rfl, 0, t, by omega, fun i hi => by omega, rfl, rfl, fun i hi => by omega, fun i hi => by omega⟩
