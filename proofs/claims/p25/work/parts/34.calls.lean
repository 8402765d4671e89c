/-! what the class asks of its arguments; shares; the mark (rows of whole) -/
theorem zs_no {n j : Nat} {x : Int32} {P : Prop} (h : x.toInt < 0 ∨ (n : Int) < x.toInt) (hj : j ≤ n) (hn : n < 1000) : x = nI j → P := fun e => by
  subst e
  rw [nI_toInt (by omega)] at h
  omega
theorem w_isSpan {x y : Int32} {Z : Int32 → Prop} (h1 : ∀ a b, a ≤ b → b < 24 → x = nI a → y = nI b → Z 1) (h0 : (∀ a b, a ≤ b → b < 24 → x = nI a → y = nI b → False) → Z 0) : Wp_X6_isSpan x y Z := by
  rcases pk_ix x (n := 24) (by omega) with h | h | ⟨a, ha, rfl⟩
  · have z := h0 (fun a b _ _ e _ => by subst e; exact nI_pos (by omega) h)
    exact ⟨fun _ => z, fun q => absurd h q⟩
  · have z := h0 (fun a b hab hb e _ => by subst e; exact nI_ge (show a < 24 by omega) (by omega) h)
    refine ⟨fun _ => z, fun _ => ⟨fun _ => z, fun q => ⟨fun _ => z, fun q2 => absurd (Int32.le_trans h (Int32.not_lt.mp q)) q2⟩⟩⟩
  · refine pk_lt a 0 (fun q => absurd q (by omega)) (fun _ => ?_)
    rcases pk_ix y (n := 24) (by omega) with h | h | ⟨b, hb, rfl⟩
    · have z := h0 (fun a b _ _ _ e => by subst e; exact nI_pos (by omega) h)
      have z2 : y < nI a := by
        have q1 := Int32.lt_iff_toInt_lt.mp h
        have : (0 : Int32).toInt = 0 := by decide
        rw [Int32.lt_iff_toInt_lt, nI_toInt (by omega)]
        omega
      exact ⟨fun _ => z, fun q => absurd z2 q⟩
    · have z := h0 (fun a b _ hb _ e => by subst e; exact nI_ge hb (by omega) h)
      exact ⟨fun _ => z, fun _ => ⟨fun _ => z, fun q => absurd h q⟩⟩
    · refine pk_lt b a (fun q => h0 (fun a2 b2 hab _ e1 e2 => ?_)) (fun q => ?_)
      · have a1 := (nI_eq (by omega) (by omega)).mp e1
        have a2 := (nI_eq (by omega) (by omega)).mp e2
        omega
      · exact pk_le 24 b (fun q2 => absurd q2 (by omega)) (fun _ => h1 a b q hb rfl rfl)
theorem w_isPair {n : Nat} {x y : Int32} {Z : Int32 → Prop} (hn : n ≤ 4) (h1 : ∀ g k, g < n → k < n → g ≠ k → x = nI g → y = nI k → Z 1) (h0 : (∀ g k, g < n → k < n → g ≠ k → x = nI g → y = nI k → False) → Z 0) : Wp_X6_isPair (nI n) x y Z := by
  refine w_isGuest hn (fun g hg e => ?_) (fun h => ?_)
  · refine ⟨fun q => absurd q (by decide), fun _ => ?_⟩
    refine w_isGuest hn (fun k hk e2 => ?_) (fun h => ?_)
    · refine ⟨fun q => absurd q (by decide), fun _ => ?_⟩
      subst e; subst e2
      exact pk_eq g k (fun q => h0 (fun g2 k2 _ _ hne e1 e2 => by
        have a1 := (nI_eq (by omega) (by omega)).mp e1
        have a2 := (nI_eq (by omega) (by omega)).mp e2
        omega)) (fun q => h1 g k hg hk q rfl rfl)
    · exact ⟨fun _ => h0 (fun g2 k2 _ hk2 _ _ e2 => h k2 hk2 e2), fun q => absurd rfl q⟩
  · exact ⟨fun _ => h0 (fun g2 k2 hg2 _ _ e1 _ => h g2 hg2 e1), fun q => absurd rfl q⟩
theorem q_gcd (x y : Nat) (h : y ≠ 0) : Nat.gcd x y = Nat.gcd y (x % y) := by
  rw [Nat.gcd_comm x y, Nat.gcd_rec y x, Nat.gcd_comm]
theorem w_gcd {a b : Nat} {Z : Int32 → Prop} (ha : a < 2 ^ 30) (hb : b ≤ 1000) (hz : Z (nI (Nat.gcd a b))) : Wp_X6_commonDivisor (nI a) (nI b) Z := by
  have key : ∀ y, ∀ x c, x < 2 ^ 30 → y < 2 ^ 30 → y + c ≤ 1000000 → Nat.gcd x y = Nat.gcd a b → Wp_X6_commonDivisor_7 (nI a) (nI b) Z (nI x) (nI y) (nI c) := by
    intro y
    induction y using Nat.strongRecOn with
    | _ y ih =>
      intro x c hx hy hc hg
      refine F_X6_commonDivisor_7 _ _ _ _ _ _ ?_
      refine pk_eq y 0 (fun e => ?_) (fun e => ?_)
      · subst e
        rw [Nat.gcd_zero_right] at hg
        rw [hg]; exact hz
      · refine pk_le 1000000 c (fun q => absurd q (by omega)) (fun _ => ?_)
        rw [pk_rem (by omega) (by omega) (by omega), nI_1]
        have hm := Nat.mod_lt x (show y > 0 by omega)
        exact ih (x % y) hm y (c + 1) hy (by omega) (by omega) (by rw [← q_gcd x y e]; exact hg)
  exact key b a 0 ha (by omega) (by omega) rfl
theorem q_gcdle {a b : Nat} (hb : 0 < b) : 0 < Nat.gcd a b ∧ Nat.gcd a b ≤ b := ⟨Nat.gcd_pos_of_pos_right a hb, Nat.le_of_dvd hb (Nat.gcd_dvd_right a b)⟩
def lden (a b : Nat) : Nat := if b = 0 then 1 else b / Nat.gcd a b
theorem w_lnum {a b : Nat} {Z : Int32 → Prop} (hab : a ≤ b) (hb : b ≤ 1000) (hz : Z (nI (a / Nat.gcd a b))) : Wp_X6_lowestNumerator (nI a) (nI b) Z := by
  refine w_gcd (by omega) hb ?_
  refine pk_eq b 0 (fun e => ?_) (fun e => ?_)
  · have e2 : a = 0 := by omega
    subst e; subst e2
    exact hz
  · have hg := q_gcdle (a := a) (b := b) (by omega)
    refine pq_ne (Nat.gcd a b) 0 (fun _ => ?_) (fun q => absurd q (by omega))
    rw [pk_div (by omega) hg.1 (by omega)]
    exact hz
theorem w_lden {a b : Nat} {Z : Int32 → Prop} (hab : a ≤ b) (hb : b ≤ 1000) (hz : Z (nI (lden a b))) : Wp_X6_lowestDenominator (nI a) (nI b) Z := by
  refine w_gcd (by omega) hb ?_
  unfold lden at hz
  refine pk_eq b 0 (fun e => ?_) (fun e => ?_)
  · rw [if_pos e] at hz
    exact hz
  · rw [if_neg e] at hz
    have hg := q_gcdle (a := a) (b := b) (by omega)
    refine pq_ne (Nat.gcd a b) 0 (fun _ => ?_) (fun q => absurd q (by omega))
    rw [pk_div (by omega) hg.1 (by omega)]
    exact hz
theorem Wo_To {v : Nat → Nat → Nat} {o : Nat → Nat} {g h : Nat} : Wo v o g h ≤ To v g := by
  have key : ∀ d a, sg (wo v o g h) a d ≤ sg (v g) a d := by
    intro d
    induction d with
    | zero => intro a; exact Nat.le_refl _
    | succ d ih =>
      intro a
      have := ih (a + 1)
      have h1 : wo v o g h a ≤ v g a := by
        unfold wo
        split <;> omega
      show wo v o g h a + sg (wo v o g h) (a + 1) d ≤ v g a + sg (v g) (a + 1) d
      omega
  exact key 24 0
theorem q_shl : ∀ n, n < 5 → (1 : Int32) <<< (nI n &&& 31) = nI (2 ^ n) := by decide +kernel
theorem q_pow : ∀ n, n < 5 → 1 ≤ 2 ^ n ∧ 2 ^ n ≤ 16 := by decide +kernel
theorem w_isMove {n : Nat} {x y : Int32} {Z : Int32 → Prop} (hn : n ≤ 4) (h1 : ∀ P s, 1 ≤ P → P ≤ 100 → 1 ≤ s → s < 2 ^ n → x = nI P → y = nI s → Z 1) (h0 : (∀ P s, 1 ≤ P → P ≤ 100 → 1 ≤ s → s < 2 ^ n → x = nI P → y = nI s → False) → Z 0) : Wp_X6_isMove (nI n) x y Z := by
  unfold Wp_X6_isMove
  rw [q_shl n (by omega)]
  have hp := q_pow n (by omega)
  by_cases hx : x < 1
  · exact ⟨fun _ => h0 (fun P s p1 p2 _ _ e _ => by subst e; exact nI_nlt (a := P) (b := 1) p1 (by omega) hx), fun q => absurd hx q⟩
  · refine ⟨fun q => absurd q hx, fun _ => ?_⟩
    have hx0 : ¬ x < 0 := fun q => hx (Int32.lt_trans q (by decide))
    obtain ⟨P, hP, rfl⟩ := nI_of hx0
    have hP1 : 1 ≤ P := by
      rcases Nat.lt_or_ge P 1 with q | q
      · exact absurd (nI_lt (a := P) (b := 1) q (by omega)) hx
      · exact q
    refine pk_lt 100 P (fun q => h0 (fun P2 s _ p2 _ _ e _ => by
      have := (nI_eq (by omega) (by omega)).mp e
      omega)) (fun hP2 => ?_)
    by_cases hy : y < 1
    · exact ⟨fun _ => h0 (fun P s _ _ s1 s2 _ e => by subst e; exact nI_nlt (a := s) (b := 1) s1 (by omega) hy), fun q => absurd hy q⟩
    · refine ⟨fun q => absurd q hy, fun _ => ?_⟩
      have hy0 : ¬ y < 0 := fun q => hy (Int32.lt_trans q (by decide))
      obtain ⟨s, hs, rfl⟩ := nI_of hy0
      have hs1 : 1 ≤ s := by
        rcases Nat.lt_or_ge s 1 with q | q
        · exact absurd (nI_lt (a := s) (b := 1) q (by omega)) hy
        · exact q
      refine pk_le (2 ^ n) s (fun q => h0 (fun P2 s2 _ _ _ hs2 _ e => ?_)) (fun q => h1 P s hP1 hP2 hs1 q rfl rfl) rfl rfl (by omega) hs
      have := (nI_eq (by omega) (by omega)).mp e
      omega
/-- who calls, of the guests from g on (e of them): 0 nobody, g + 1 the guest g -/
def cl (v : Nat → Nat → Nat) (o : Nat → Nat) (P set : Int32) (a d : Nat) : Nat → Nat → Nat
  | 0, _ => 0
  | e + 1, g => if (set >>> (nI g &&& 31)) &&& 1 = 1 ∧ ¬ (100 : Int32) * nI (sg (wo v o g 0) a d) < P * nI (To v g) then g + 1 else cl v o P set a d e (g + 1)
theorem cl_le {v : Nat → Nat → Nat} {o : Nat → Nat} {P set : Int32} {a d : Nat} : ∀ e g, cl v o P set a d e g ≤ g + e
  | 0, _ => Nat.zero_le _
  | e + 1, g => by
    unfold cl
    split
    · omega
    · have := cl_le (v := v) (o := o) (P := P) (set := set) (a := a) (d := d) e (g + 1)
      omega
theorem cl_congr {v : Nat → Nat → Nat} {o o' : Nat → Nat} {P set : Int32} {a d : Nat} (h : ∀ g, sg (wo v o g 0) a d = sg (wo v o' g 0) a d) : ∀ e g, cl v o P set a d e g = cl v o' P set a d e g := by
  intro e
  induction e with
  | zero => intro g; rfl
  | succ e ih =>
    intro g
    unfold cl
    rw [h g, ih (g + 1)]
theorem w_firstCaller {cw : Nat → Int32} {cV : Nat → Nat → Int32} {v : Nat → Nat → Nat} {o : Nat → Nat} {n a c : Nat} {P set : Int32} {Z : Int32 → Prop} (hn : n ≤ 4) (ho' : okO n o) (hc : c < 24) (hac : a ≤ c) (hW : rW o cw) (hV : rV v cV) (hz : Z (oI (cl v o P set a (c + 1 - a) n 0))) : Wp_X2_firstCaller (nI n) cw cV P set (nI a) (nI c) Z := by
  have key : ∀ e g, g + e = n → Z (oI (cl v o P set a (c + 1 - a) e g)) → Wp_X2_firstCaller_3 (nI n) cw cV P set (nI a) (nI c) Z (nI g) := by
    intro e
    induction e with
    | zero =>
      intro g hge hz
      refine F_X2_firstCaller_3 _ _ _ _ _ _ _ _ _ ?_
      exact pk_le n g (fun _ => hz) (fun q => absurd q (by omega))
    | succ e ih =>
      intro g hge hz
      refine F_X2_firstCaller_3 _ _ _ _ _ _ _ _ _ ?_
      unfold cl at hz
      refine pk_le n g (fun q => absurd q (by omega)) (fun _ => ⟨fun q => ?_, fun q => ?_⟩)
      · rw [if_neg (fun z => q z.1)] at hz
        refine ⟨fun _ => ?_, fun q2 => absurd rfl q2⟩
        rw [nI_1]
        exact ih (g + 1) (by omega) hz
      · refine ⟨fun q2 => absurd q2 (by decide), fun _ => ?_⟩
        refine w_worthWithin (h := 0) hn ho' (by omega) (by omega) hc hW hV (by omega) ?_
        refine w_total (by omega) hV ?_
        refine ⟨fun q2 => ?_, fun q2 => ?_⟩
        · rw [if_neg (fun z => z.2 q2)] at hz
          rw [nI_1]
          exact ih (g + 1) (by omega) hz
        · rw [if_pos ⟨q, q2⟩] at hz
          exact hz
  exact key n 0 (by omega) hz
theorem w_giveTo {mw : Nat → Int32} {o : Nat → Nat} {n h a b : Nat} {Z : (Nat → Int32) → Prop} (hn : n ≤ 4) (hok : okO n o) (hh : h ≤ n) (hb : b < 24) (hab : a ≤ b + 1) (hW : rW o mw) (hz : ∀ mw', rW (ho h (b + 1 - a) a o 0).1 mw' → Z mw') : Wp_X2_giveTo mw (oI h) (nI a) (nI b) Z := by
  have key : ∀ d c k o mw, c + d = b + 1 → okO n o → rW o mw → (∀ mw', rW (ho h d c o k).1 mw' → Z mw') → Wp_X2_giveTo_3 (oI h) (nI a) (nI b) Z (nI c) mw := by
    intro d
    induction d with
    | zero =>
      intro c k o mw hcd hok hW hz
      refine F_X2_giveTo_3 _ _ _ _ _ _ ?_
      exact pk_lt b c (fun _ => hz mw hW) (fun q => absurd q (by omega))
    | succ d ih =>
      intro c k o mw hcd hok hW hz
      refine F_X2_giveTo_3 _ _ _ _ _ _ ?_
      have hc : c < 24 := by omega
      have hoc := hok c hc
      refine pk_lt b c (fun q => absurd q (by omega)) (fun _ => ⟨q_in hc, ?_⟩)
      rw [q_cl c, hW c hc]
      unfold ho at hz
      refine po_ne (o c) 0 (fun e => ?_) (fun e => ?_)
      · rw [if_neg e] at hz
        rw [nI_1]
        exact ih (c + 1) k o mw (by omega) hok hW hz
      · rw [if_pos e] at hz
        rw [nI_1]
        exact ih (c + 1) (k + 1) (up o c h) _ (by omega) (okO_up hok hh) (rW_up hW) hz
  exact key (b + 1 - a) a 0 o mw (by omega) hok hW hz
theorem ho_keep {h : Nat} : ∀ d c o k j, (j < c ∨ c + d ≤ j) → (ho h d c o k).1 j = o j
  | 0, _, _, _, _, _ => rfl
  | d + 1, c, o, k, j, hj => by
    unfold ho
    split
    · rw [ho_keep d (c + 1) _ _ j (by omega), up_n (by omega)]
    · exact ho_keep d (c + 1) _ _ j (by omega)
/-- the mark from the crumb c on (d crumbs): who takes part, since where, how many have got something, the owners -/
def mv (v : Nat → Nat → Nat) (n : Nat) (P : Int32) : Nat → Nat → Int32 → Nat → Nat → (Nat → Nat) → (Nat → Nat) × Nat
  | 0, _, _, _, k, o => (o, k)
  | d + 1, c, set, a, k, o =>
    if set = 0 then (o, k)
    else if o c = 0 then
      (if cl v o P set a (c + 1 - a) n 0 = 0 then mv v n P d (c + 1) set a k o
       else mv v n P d (c + 1) (set &&& (((1 : Int32) <<< (nI (cl v o P set a (c + 1 - a) n 0 - 1) &&& 31)) ^^^ (-1))) (c + 1) (k + 1) (ho (cl v o P set a (c + 1 - a) n 0) (c + 1 - a) a o 0).1)
    else mv v n P d (c + 1) set a k o
theorem mv_ok {v : Nat → Nat → Nat} {n : Nat} {P : Int32} : ∀ d c set a k o, okO n o → okO n (mv v n P d c set a k o).1 := by
  intro d
  induction d with
  | zero => intro c set a k o h; exact h
  | succ d ih =>
    intro c set a k o h
    unfold mv
    split
    · exact h
    · split
      · split
        · exact ih _ _ _ _ _ h
        · refine ih _ _ _ _ _ (ho_ok ?_ _ _ _ _ h)
          have := cl_le (v := v) (o := o) (P := P) (set := set) (a := a) (d := c + 1 - a) n 0
          omega
      · exact ih _ _ _ _ _ h
theorem oI_pos {x : Nat} (h : x ≠ 0) : oI x = nI (x - 1) := if_neg h
theorem oM_pos {x : Nat} (h : x ≠ 0) : oM x = nI (x - 1) := if_neg h
theorem w_pass {cw mw : Nat → Int32} {cV : Nat → Nat → Int32} {v : Nat → Nat → Nat} {o : Nat → Nat} {n : Nat} {P set : Int32} {Z : Int32 → (Nat → Int32) → Prop} (hn : n ≤ 4) (hok : okO n o) (hW : rW o cw) (hV : rV v cV) (hz : ∀ mw', rW (mv v n P 24 0 set 0 0 o).1 mw' → Z (nI (mv v n P 24 0 set 0 0 o).2) mw') : Wp_X2_pass mw (nI n) cw cV P set Z := by
  have key : ∀ d c set' a k o' mw', c + d = 24 → a ≤ c → okO n o' → rW o' mw' → (∀ j, a ≤ j → j < 24 → o' j = o j) → (∀ mw2, rW (mv v n P d c set' a k o').1 mw2 → Z (nI (mv v n P d c set' a k o').2) mw2) → Wp_X2_pass_27 (nI n) cw cV P set Z set' (nI a) (nI k) (nI c) mw' := by
    intro d
    induction d with
    | zero =>
      intro c set' a k o' mw' hcd hac hok' hW' hsame hz
      refine F_X2_pass_27 _ _ _ _ _ _ _ _ _ _ _ ?_
      exact pk_le 24 c (fun _ => hz mw' hW') (fun q => absurd q (by omega))
    | succ d ih =>
      intro c set' a k o' mw' hcd hac hok' hW' hsame hz
      refine F_X2_pass_27 _ _ _ _ _ _ _ _ _ _ _ ?_
      have hc : c < 24 := by omega
      have hoc := hok' c hc
      unfold mv at hz
      refine pk_le 24 c (fun q => absurd q (by omega)) (fun _ => ⟨fun q => ?_, fun q => ⟨q_in hc, ?_⟩⟩)
      · rw [if_pos q] at hz
        exact hz mw' hW'
      · rw [if_neg q] at hz
        rw [q_cl c, hW' c hc]
        refine po_eq (o' c) 0 (fun e => ?_) (fun e => ?_)
        · rw [if_pos e] at hz
          have ecl : cl v o' P set' a (c + 1 - a) n 0 = cl v o P set' a (c + 1 - a) n 0 := cl_congr (fun g => sg_congr _ _ (fun j j1 j2 => by unfold wo; rw [hsame j j1 (by omega)])) n 0
          rw [ecl] at hz
          refine w_firstCaller hn hok hc hac hW hV ?_
          have hcl := cl_le (v := v) (o := o) (P := P) (set := set') (a := a) (d := c + 1 - a) n 0
          generalize cl v o P set' a (c + 1 - a) n 0 = x at hz hcl ⊢
          refine po_eq x 0 (fun e2 => ?_) (fun e2 => ?_)
          · rw [if_pos e2] at hz
            rw [nI_1]
            exact ih (c + 1) set' a k o' mw' (by omega) (by omega) hok' hW' hsame hz
          · rw [if_neg e2] at hz
            refine w_giveTo (h := x) hn hok' (by omega) hc (by omega) hW' (fun mw2 hW2 => ?_)
            rw [oI_pos e2, nI_1, nI_1]
            exact ih (c + 1) _ (c + 1) (k + 1) _ mw2 (by omega) (Nat.le_refl _) (ho_ok (by omega) _ _ _ _ hok') hW2 (fun j j1 j2 => by rw [ho_keep _ _ _ _ j (by omega)]; exact hsame j (by omega) j2) hz
        · rw [if_neg e] at hz
          rw [nI_1]
          exact ih (c + 1) set' a k o' mw' (by omega) (by omega) hok' hW' hsame hz
  exact key 24 0 set 0 0 o _ (by omega) (Nat.le_refl 0) hok (fun c hc => by rw [q_cpy hc]; exact hW c hc) (fun _ _ _ => rfl) hz
