/-! a mark moves: move and calls, class beside reference -/
theorem q_shl : ∀ n, n < 5 → (1 : Int32) <<< (nI n &&& 31) = nI (2 ^ n) := by decide +kernel
theorem q_pow : ∀ n, n < 5 → 1 ≤ 2 ^ n ∧ 2 ^ n ≤ 16 := by decide +kernel
theorem w_isMove {n : Nat} {x y : Int32} {Z : Int32 → Prop} (hn : n ≤ 4) (h1 : ∀ P s, 1 ≤ P → P ≤ 100 → 1 ≤ s → s < 2 ^ n → x = nI P → y = nI s → Z 1) (h0 : (∀ P s, 1 ≤ P → P ≤ 100 → 1 ≤ s → s < 2 ^ n → x = nI P → y = nI s → False) → Z 0) : Wp_X6_isMove (nI n) x y Z := by
  unfold Wp_X6_isMove
  rw [q_shl n (by omega)]
  have hp := q_pow n (by omega)
  by_cases hx : x < 1
  · exact ⟨fun _ => h0 (fun P s p1 p2 _ _ e _ => by subst e; exact nI_nlt (a := P) (b := 1) p1 (by omega) hx), fun q => absurd hx q⟩
  · refine ⟨fun q => absurd q hx, fun _ => ?_⟩
    have hx0 : ¬ x < 0 := fun q => hx (Int32.lt_trans q (by decide))
    obtain ⟨P, hP, rfl⟩ := nI_of hx0
    have hP1 : 1 ≤ P := by
      rcases Nat.lt_or_ge P 1 with q | q
      · exact absurd (nI_lt (a := P) (b := 1) q (by omega)) hx
      · exact q
    refine pk_lt 100 P (fun q => h0 (fun P2 s _ p2 _ _ e _ => by
      have := (nI_eq (by omega) (by omega)).mp e
      omega)) (fun hP2 => ?_)
    by_cases hy : y < 1
    · exact ⟨fun _ => h0 (fun P s _ _ s1 s2 _ e => by subst e; exact nI_nlt (a := s) (b := 1) s1 (by omega) hy), fun q => absurd hy q⟩
    · refine ⟨fun q => absurd q hy, fun _ => ?_⟩
      have hy0 : ¬ y < 0 := fun q => hy (Int32.lt_trans q (by decide))
      obtain ⟨s, hs, rfl⟩ := nI_of hy0
      have hs1 : 1 ≤ s := by
        rcases Nat.lt_or_ge s 1 with q | q
        · exact absurd (nI_lt (a := s) (b := 1) q (by omega)) hy
        · exact q
      refine pk_le (2 ^ n) s (fun q => h0 (fun P2 s2 _ _ _ hs2 _ e => ?_)) (fun q => h1 P s hP1 hP2 hs1 q rfl rfl) rfl rfl (by omega) hs
      have := (nI_eq (by omega) (by omega)).mp e
      omega
theorem w7_isMove {R : Nat → Int32} {n : Nat} {x y : Int32} {Z : Int32 → Prop} (hn : n ≤ 4) (hR : R 0 = nI n) (h1 : ∀ P s, 1 ≤ P → P ≤ 100 → 1 ≤ s → s < 2 ^ n → x = nI P → y = nI s → Z 1) (h0 : (∀ P s, 1 ≤ P → P ≤ 100 → 1 ≤ s → s < 2 ^ n → x = nI P → y = nI s → False) → Z 0) : Wp_X7_isMove R x y Z := by
  have hp := q_pow n (by omega)
  refine w7_in (l := 1) (u := 100) (by omega) (by omega) (fun P p1 p2 e => ?_) (fun hno => ⟨fun _ => h0 (fun P _ p1 p2 _ _ e _ => hno P p1 p2 e), fun q => absurd rfl q⟩)
  refine ⟨fun q => absurd q (by decide), fun _ => ⟨q_in (k := 0) (by omega), ?_⟩⟩
  have e0 : R (0 : Int32).toNatClampNeg = nI n := hR
  rw [e0, q_shl n (by omega)]
  have e1 : nI (2 ^ n) - 1 = nI (2 ^ n - 1) := pk_sub (b := 1) hp.1
  rw [e1]
  refine w7_in (l := 1) (u := 2 ^ n - 1) (by omega) (by omega) (fun s s1 s2 e2 => ?_) (fun hno => ⟨fun _ => h0 (fun _ s _ _ s1 s2 _ e => hno s s1 (by omega) e), fun q => absurd rfl q⟩)
  exact ⟨fun q => absurd q (by decide), fun _ => h1 P s p1 p2 s1 (by omega) e e2⟩
/-- who calls, of the guests from g on (e of them): 0 nobody, g + 1 the guest g -/
def cl (v : Nat → Nat → Nat) (o : Nat → Nat) (P set : Int32) (a d : Nat) : Nat → Nat → Nat
  | 0, _ => 0
  | e + 1, g => if (set >>> (nI g &&& 31)) &&& 1 = 1 ∧ ¬ (100 : Int32) * nI (sg (wo v o g 0) a d) < P * nI (To v g) then g + 1 else cl v o P set a d e (g + 1)
theorem cl_le {v : Nat → Nat → Nat} {o : Nat → Nat} {P set : Int32} {a d : Nat} : ∀ e g, cl v o P set a d e g ≤ g + e
  | 0, _ => Nat.zero_le _
  | e + 1, g => by
    unfold cl
    split
    · omega
    · have := cl_le (v := v) (o := o) (P := P) (set := set) (a := a) (d := d) e (g + 1)
      omega
theorem cl_congr {v : Nat → Nat → Nat} {o o' : Nat → Nat} {P set : Int32} {a d : Nat} (h : ∀ g, sg (wo v o g 0) a d = sg (wo v o' g 0) a d) : ∀ e g, cl v o P set a d e g = cl v o' P set a d e g := by
  intro e
  induction e with
  | zero => intro g; rfl
  | succ e ih =>
    intro g
    unfold cl
    rw [h g, ih (g + 1)]
theorem w_firstCaller {cw : Nat → Int32} {cV : Nat → Nat → Int32} {v : Nat → Nat → Nat} {o : Nat → Nat} {n a c : Nat} {P set : Int32} {Z : Int32 → Prop} (hn : n ≤ 4) (ho' : okO n o) (hc : c < 24) (hac : a ≤ c) (hW : rW o cw) (hV : rV v cV) (hz : Z (oI (cl v o P set a (c + 1 - a) n 0))) : Wp_X2_firstCaller (nI n) cw cV P set (nI a) (nI c) Z := by
  have key : ∀ e g, g + e = n → Z (oI (cl v o P set a (c + 1 - a) e g)) → Wp_X2_firstCaller_3 (nI n) cw cV P set (nI a) (nI c) Z (nI g) := by
    intro e
    induction e with
    | zero =>
      intro g hge hz
      refine F_X2_firstCaller_3 _ _ _ _ _ _ _ _ _ ?_
      exact pk_le n g (fun _ => hz) (fun q => absurd q (by omega))
    | succ e ih =>
      intro g hge hz
      refine F_X2_firstCaller_3 _ _ _ _ _ _ _ _ _ ?_
      unfold cl at hz
      refine pk_le n g (fun q => absurd q (by omega)) (fun _ => ⟨fun q => ?_, fun q => ?_⟩)
      · rw [if_neg (fun z => q z.1)] at hz
        refine ⟨fun _ => ?_, fun q2 => absurd rfl q2⟩
        rw [nI_1]
        exact ih (g + 1) (by omega) hz
      · refine ⟨fun q2 => absurd q2 (by decide), fun _ => ?_⟩
        refine w_worthWithin (h := 0) hn ho' (by omega) (by omega) hc hW hV (by omega) ?_
        refine w_total (by omega) hV ?_
        refine ⟨fun q2 => ?_, fun q2 => ?_⟩
        · rw [if_neg (fun z => z.2 q2)] at hz
          rw [nI_1]
          exact ih (g + 1) (by omega) hz
        · rw [if_pos ⟨q, q2⟩] at hz
          exact hz
  exact key n 0 (by omega) hz
theorem w7_caller {R : Nat → Int32} {v : Nat → Nat → Nat} {o : Nat → Nat} {n a c : Nat} {P set : Int32} {Z : Int32 → Prop} (hn : n ≤ 4) (ho' : okO n o) (hc : c < 24) (hac : a ≤ c) (hR : R 0 = nI n) (hO : mO o R) (hV : mV v R) (hz : Z (oM (cl v o P set a (c + 1 - a) n 0))) : Wp_X7_caller R P set (nI a) (nI c) Z := by
  have e0 : R (0 : Int32).toNatClampNeg = nI n := hR
  have key : ∀ e g, g + e = n → Z (oM (cl v o P set a (c + 1 - a) e g)) → Wp_X7_caller_3 R P set (nI a) (nI c) Z (nI g) := by
    intro e
    induction e with
    | zero =>
      intro g hge hz
      refine F_X7_caller_3 _ _ _ _ _ _ _ ⟨q_in (k := 0) (by omega), ?_⟩
      rw [e0]
      exact pk_le n g (fun _ => hz) (fun q => absurd q (by omega))
    | succ e ih =>
      intro g hge hz
      refine F_X7_caller_3 _ _ _ _ _ _ _ ⟨q_in (k := 0) (by omega), ?_⟩
      rw [e0]
      unfold cl at hz
      have hg : g < 4 := by omega
      refine pk_le n g (fun q => absurd q (by omega)) (fun _ => ?_)
      have inner : ∀ d i s, i + d = c + 1 → s + sg (wo v o g 0) i d = sg (wo v o g 0) a (c + 1 - a) → Wp_X7_caller_20 R P set (nI a) (nI c) Z (nI g) (nI s) (nI i) := by
        intro d
        induction d with
        | zero =>
          intro i s hid hs
          refine F_X7_caller_20 _ _ _ _ _ _ _ _ _ ?_
          refine pk_lt c i (fun _ => ?_) (fun q => absurd q (by omega))
          have hs : s = sg (wo v o g 0) a (c + 1 - a) := hs
          subst hs
          refine ⟨fun q => ?_, fun q => ?_⟩
          · rw [if_neg (fun z => q z.1)] at hz
            rw [nI_1]
            exact ih (g + 1) (by omega) hz
          · refine w7_total hg hV ?_
            refine ⟨fun q2 => ?_, fun q2 => ?_⟩
            · rw [if_neg (fun z => z.2 q2)] at hz
              rw [nI_1]
              exact ih (g + 1) (by omega) hz
            · rw [if_pos ⟨q, q2⟩] at hz
              exact hz
        | succ d ih2 =>
          intro i s hid hs
          refine F_X7_caller_20 _ _ _ _ _ _ _ _ _ ?_
          have hi : i < 24 := by omega
          have hoi := ho' i hi
          refine pk_lt c i (fun q => absurd q (by omega)) (fun _ => ?_)
          rw [ix_o, q_cl (1 + i) (by omega), hO i hi]
          refine ⟨q_in (by omega), ?_⟩
          have e2 : sg (wo v o g 0) i (d + 1) = wo v o g 0 i + sg (wo v o g 0) (i + 1) d := rfl
          rw [e2] at hs
          refine pm_ne (o i) 0 (fun q => ?_) (fun q => ?_)
          · show Wp_X7_caller_20 R P set (nI a) (nI c) Z (nI g) (nI s + nI 0) (nI i + 1)
            rw [nI_add, nI_1]
            have e3 : wo v o g 0 i = 0 := if_neg q
            exact ih2 (i + 1) (s + 0) (by omega) (by omega)
          · refine w7_valueOf hg hi hV ?_
            show Wp_X7_caller_20 R P set (nI a) (nI c) Z (nI g) (nI s + nI (v g i)) (nI i + 1)
            rw [nI_add, nI_1]
            have e3 : wo v o g 0 i = v g i := if_pos q
            exact ih2 (i + 1) (s + v g i) (by omega) (by omega)
      exact inner (c + 1 - a) a 0 (by omega) (by omega)
  exact key n 0 (by omega) hz
theorem w_giveTo {mw : Nat → Int32} {o : Nat → Nat} {n h a b : Nat} {Z : (Nat → Int32) → Prop} (hn : n ≤ 4) (hok : okO n o) (hh : h ≤ n) (hb : b < 24) (hab : a ≤ b + 1) (hW : rW o mw) (hz : ∀ mw', rW (ho h (b + 1 - a) a o 0).1 mw' → Z mw') : Wp_X2_giveTo mw (oI h) (nI a) (nI b) Z := by
  have key : ∀ d c k o mw, c + d = b + 1 → okO n o → rW o mw → (∀ mw', rW (ho h d c o k).1 mw' → Z mw') → Wp_X2_giveTo_3 (oI h) (nI a) (nI b) Z (nI c) mw := by
    intro d
    induction d with
    | zero =>
      intro c k o mw hcd hok hW hz
      refine F_X2_giveTo_3 _ _ _ _ _ _ ?_
      exact pk_lt b c (fun _ => hz mw hW) (fun q => absurd q (by omega))
    | succ d ih =>
      intro c k o mw hcd hok hW hz
      refine F_X2_giveTo_3 _ _ _ _ _ _ ?_
      have hc : c < 24 := by omega
      have hoc := hok c hc
      refine pk_lt b c (fun q => absurd q (by omega)) (fun _ => ⟨q_in hc, ?_⟩)
      rw [q_cl c, hW c hc]
      unfold ho at hz
      refine po_ne (o c) 0 (fun e => ?_) (fun e => ?_)
      · rw [if_neg e] at hz
        rw [nI_1]
        exact ih (c + 1) k o mw (by omega) hok hW hz
      · rw [if_pos e] at hz
        rw [nI_1]
        exact ih (c + 1) (k + 1) (up o c h) _ (by omega) (okO_up hok hh) (rW_up hW) hz
  exact key (b + 1 - a) a 0 o mw (by omega) hok hW hz
theorem ho_keep {h : Nat} : ∀ d c o k j, (j < c ∨ c + d ≤ j) → (ho h d c o k).1 j = o j
  | 0, _, _, _, _, _ => rfl
  | d + 1, c, o, k, j, hj => by
    unfold ho
    split
    · rw [ho_keep d (c + 1) _ _ j (by omega), up_n (by omega)]
    · exact ho_keep d (c + 1) _ _ j (by omega)
/-- the mark from the crumb c on (d crumbs): who takes part, since where, how many have got something, the owners -/
def mv (v : Nat → Nat → Nat) (n : Nat) (P : Int32) : Nat → Nat → Int32 → Nat → Nat → (Nat → Nat) → (Nat → Nat) × Nat
  | 0, _, _, _, k, o => (o, k)
  | d + 1, c, set, a, k, o =>
    if set = 0 then (o, k)
    else if o c = 0 then
      (if cl v o P set a (c + 1 - a) n 0 = 0 then mv v n P d (c + 1) set a k o
       else mv v n P d (c + 1) (set &&& (((1 : Int32) <<< (nI (cl v o P set a (c + 1 - a) n 0 - 1) &&& 31)) ^^^ (-1))) (c + 1) (k + 1) (ho (cl v o P set a (c + 1 - a) n 0) (c + 1 - a) a o 0).1)
    else mv v n P d (c + 1) set a k o
theorem mv_ok {v : Nat → Nat → Nat} {n : Nat} {P : Int32} : ∀ d c set a k o, okO n o → okO n (mv v n P d c set a k o).1 := by
  intro d
  induction d with
  | zero => intro c set a k o h; exact h
  | succ d ih =>
    intro c set a k o h
    unfold mv
    split
    · exact h
    · split
      · split
        · exact ih _ _ _ _ _ h
        · refine ih _ _ _ _ _ (ho_ok ?_ _ _ _ _ h)
          have := cl_le (v := v) (o := o) (P := P) (set := set) (a := a) (d := c + 1 - a) n 0
          omega
      · exact ih _ _ _ _ _ h
theorem oI_pos {x : Nat} (h : x ≠ 0) : oI x = nI (x - 1) := if_neg h
theorem oM_pos {x : Nat} (h : x ≠ 0) : oM x = nI (x - 1) := if_neg h
theorem w_pass {cw mw : Nat → Int32} {cV : Nat → Nat → Int32} {v : Nat → Nat → Nat} {o : Nat → Nat} {n : Nat} {P set : Int32} {Z : Int32 → (Nat → Int32) → Prop} (hn : n ≤ 4) (hok : okO n o) (hW : rW o cw) (hV : rV v cV) (hz : ∀ mw', rW (mv v n P 24 0 set 0 0 o).1 mw' → Z (nI (mv v n P 24 0 set 0 0 o).2) mw') : Wp_X2_pass mw (nI n) cw cV P set Z := by
  have key : ∀ d c set' a k o' mw', c + d = 24 → a ≤ c → okO n o' → rW o' mw' → (∀ j, a ≤ j → j < 24 → o' j = o j) → (∀ mw2, rW (mv v n P d c set' a k o').1 mw2 → Z (nI (mv v n P d c set' a k o').2) mw2) → Wp_X2_pass_27 (nI n) cw cV P set Z set' (nI a) (nI k) (nI c) mw' := by
    intro d
    induction d with
    | zero =>
      intro c set' a k o' mw' hcd hac hok' hW' hsame hz
      refine F_X2_pass_27 _ _ _ _ _ _ _ _ _ _ _ ?_
      exact pk_le 24 c (fun _ => hz mw' hW') (fun q => absurd q (by omega))
    | succ d ih =>
      intro c set' a k o' mw' hcd hac hok' hW' hsame hz
      refine F_X2_pass_27 _ _ _ _ _ _ _ _ _ _ _ ?_
      have hc : c < 24 := by omega
      have hoc := hok' c hc
      unfold mv at hz
      refine pk_le 24 c (fun q => absurd q (by omega)) (fun _ => ⟨fun q => ?_, fun q => ⟨q_in hc, ?_⟩⟩)
      · rw [if_pos q] at hz
        exact hz mw' hW'
      · rw [if_neg q] at hz
        rw [q_cl c, hW' c hc]
        refine po_eq (o' c) 0 (fun e => ?_) (fun e => ?_)
        · rw [if_pos e] at hz
          have ecl : cl v o' P set' a (c + 1 - a) n 0 = cl v o P set' a (c + 1 - a) n 0 := cl_congr (fun g => sg_congr _ _ (fun j j1 j2 => by unfold wo; rw [hsame j j1 (by omega)])) n 0
          rw [ecl] at hz
          refine w_firstCaller hn hok hc hac hW hV ?_
          have hcl := cl_le (v := v) (o := o) (P := P) (set := set') (a := a) (d := c + 1 - a) n 0
          generalize cl v o P set' a (c + 1 - a) n 0 = x at hz hcl ⊢
          refine po_eq x 0 (fun e2 => ?_) (fun e2 => ?_)
          · rw [if_pos e2] at hz
            rw [nI_1]
            exact ih (c + 1) set' a k o' mw' (by omega) (by omega) hok' hW' hsame hz
          · rw [if_neg e2] at hz
            refine w_giveTo (h := x) hn hok' (by omega) hc (by omega) hW' (fun mw2 hW2 => ?_)
            rw [oI_pos e2, nI_1, nI_1]
            exact ih (c + 1) _ (c + 1) (k + 1) _ mw2 (by omega) (Nat.le_refl _) (ho_ok (by omega) _ _ _ _ hok') hW2 (fun j j1 j2 => by rw [ho_keep _ _ _ _ j (by omega)]; exact hsame j (by omega) j2) hz
        · rw [if_neg e] at hz
          rw [nI_1]
          exact ih (c + 1) set' a k o' mw' (by omega) (by omega) hok' hW' hsame hz
  exact key 24 0 set 0 0 o _ (by omega) (Nat.le_refl 0) hok (fun c hc => by rw [q_cpy hc]; exact hW c hc) (fun _ _ _ => rfl) hz
theorem w7_moves {R : Nat → Int32} {v : Nat → Nat → Nat} {o : Nat → Nat} {n : Nat} {P set : Int32} {Z : Int32 → (Nat → Int32) → Prop} (hn : n ≤ 4) (hok : okO n o) (hm : mR 0 (n, o, v) R) (hz : ∀ R', mO (mv v n P 24 0 set 0 0 o).1 R' → fO R R' → Z (nI (mv v n P 24 0 set 0 0 o).2) R') : Wp_X7_moves R P set Z := by
  have key : ∀ d c set' a k o' R', c + d = 24 → a ≤ c → okO n o' → mR 0 (n, o', v) R' → fO R R' → (∀ R2, mO (mv v n P d c set' a k o').1 R2 → fO R R2 → Z (nI (mv v n P d c set' a k o').2) R2) → Wp_X7_moves_11 P set Z set' (nI a) (nI k) (nI c) R' := by
    intro d
    induction d with
    | zero =>
      intro c set' a k o' R' hcd hac hok' hm' hf hz
      refine F_X7_moves_11 _ _ _ _ _ _ _ _ ?_
      exact pk_le 24 c (fun _ => hz R' hm'.O hf) (fun q => absurd q (by omega))
    | succ d ih =>
      intro c set' a k o' R' hcd hac hok' hm' hf hz
      refine F_X7_moves_11 _ _ _ _ _ _ _ _ ?_
      have hc : c < 24 := by omega
      have hoc := hok' c hc
      unfold mv at hz
      refine pk_le 24 c (fun q => absurd q (by omega)) (fun _ => ⟨fun q => ?_, fun q => ?_⟩)
      · rw [if_pos q] at hz
        exact hz R' hm'.O hf
      · rw [if_neg q] at hz
        rw [ix_o, q_cl (1 + c) (by omega), hm'.O c hc]
        refine ⟨q_in (by omega), ?_⟩
        refine pm_ne (o' c) 0 (fun e => ?_) (fun e => ?_)
        · have e' : ¬ o' c = 0 := e
          rw [if_neg e'] at hz
          refine ⟨fun _ => ?_, fun q => absurd rfl q⟩
          rw [nI_1]
          exact ih (c + 1) set' a k o' R' (by omega) (by omega) hok' hm' hf hz
        · have e' : o' c = 0 := e
          rw [if_pos e'] at hz
          refine w7_caller hn hok' hc hac hm'.R0 hm'.O hm'.V ?_
          have hcl := cl_le (v := v) (o := o') (P := P) (set := set') (a := a) (d := c + 1 - a) n 0
          show K_X7_moves_51 P set Z (Wp_X7_moves_11 P set Z) set' (nI a) (nI k) (nI c) R' (oM (cl v o' P set' a (c + 1 - a) n 0))
          generalize cl v o' P set' a (c + 1 - a) n 0 = x at hz hcl ⊢
          refine pm_eq x 0 (fun e2 => ?_) (fun e2 => ?_)
          · rw [if_pos e2] at hz
            rw [nI_1]
            exact ih (c + 1) set' a k o' R' (by omega) (by omega) hok' hm' hf hz
          · rw [if_neg e2] at hz
            refine w7_bringsT (h := x) hn hok' (by omega) hc (by omega) hm'.O (fun R2 hO2 hf2 => ?_)
            rw [oM_pos e2, nI_1, nI_1]
            exact ih (c + 1) _ (c + 1) (k + 1) _ R2 (by omega) (Nat.le_refl _) (ho_ok (by omega) _ _ _ _ hok') (hm'.setO hO2 hf2) (fun i hi => (hf2 i hi).trans (hf i hi)) hz
  exact key 24 0 set 0 0 o R (by omega) (Nat.le_refl 0) hok hm (fun _ _ => rfl) hz
section MOVES
variable {A : CA} {k : Nat} {h : Nat → CA} {ss sq cg : Int32} {cw : Nat → Int32} {cV : Nat → Nat → Int32} {qg : Nat → Int32} {qw : Nat → Nat → Int32} {qV : Nat → Nat → Nat → Int32} {uR : Nat → Int32} {uk : Int32} {mw : Nat → Int32}
theorem op_move (hS : St A k h ss cg cw cV qg qw qV uR uk) (x1 x2 : Int32) : Wp_X6_move ss sq cg cw cV qg qw qV mw x1 x2 (fun r ss' sq' cw' qg' qw' qV' mw' => Wp_X7_move uR uk x1 x2 (fun r' uR' uk' => r = r' ∧ Af A sq ss' sq' cg cw' cV qg' qw' qV' uR' uk')) := by
  have hS0 := hS
  obtain ⟨⟨hn, ho', hv⟩, hk, hh, -, ⟨hcg, hcw, hcV⟩, hcH, hmR, -, hmH⟩ := hS
  obtain ⟨n, o, v⟩ := A
  have hcg : cg = nI n := hcg
  subst hcg
  have hn : n ≤ 4 := hn
  have ho' : okO n o := ho'
  have hv : okV v := hv
  refine w_isMove hn (fun P s p1 p2 s1 s2 e1 e2 => ?_) (fun hno => ⟨fun q => absurd rfl q, fun _ => ?_⟩)
  · refine ⟨fun _ => ?_, fun q => absurd q (by decide)⟩
    refine act hS0 (fun qg' qw' qV' c1 => ?_)
    refine w_pass hn ho' hcw hcV (fun mw' hW' => ?_)
    refine w_takeOwners hW' (fun cw' hcw' => ?_)
    refine w7_isMove hn hmR.R0 (fun _ _ _ _ _ _ _ _ => ?_) (fun hno => absurd (hno P s p1 p2 s1 s2 e1 e2) id)
    refine ⟨fun _ => ?_, fun q => absurd q (by decide)⟩
    refine act7 hS0 (fun R' m1 m2 => ?_)
    refine w7_moves hn ho' m1 (fun R2 hO2 hf => ⟨rfl, ?_⟩)
    exact ⟨(n, _, v), recK k, recH k h (n, o, v), ⟨⟨hn, mv_ok _ _ _ _ _ _ ho', hv⟩, recK_le hk, recH_ok hk hh ⟨hn, ho', hv⟩, rfl, ⟨rfl, hcw', hcV⟩, c1, m1.setO hO2 hf, rfl, m2.fO hf⟩, Or.inl rfl⟩
  · exact w7_isMove hn hmR.R0 (fun P s p1 p2 s1 s2 e1 e2 => absurd (hno P s p1 p2 s1 s2 e1 e2) id) (fun _ => ⟨fun q => absurd rfl q, fun _ => ⟨rfl, hS0.same⟩⟩)
theorem op_calls (hS : St A k h ss cg cw cV qg qw qV uR uk) (x1 x2 : Int32) : Wp_X6_calls cg cw cV mw x1 x2 (fun r mw' => Wp_X7_calls uR x1 x2 (fun r' uR' => r = r' ∧ St A k h ss cg cw cV qg qw qV uR' uk)) := by
  have hS0 := hS
  obtain ⟨⟨hn, ho', hv⟩, hk, hh, hss, ⟨hcg, hcw, hcV⟩, hcH, hmR, huk, hmH⟩ := hS
  obtain ⟨n, o, v⟩ := A
  have hcg : cg = nI n := hcg
  subst hcg
  have hn : n ≤ 4 := hn
  have ho' : okO n o := ho'
  have hv : okV v := hv
  refine w_isMove hn (fun P s p1 p2 s1 s2 e1 e2 => ?_) (fun hno => ⟨fun _ => ?_, fun q => absurd rfl q⟩)
  · refine ⟨fun q => absurd q (by decide), fun _ => ?_⟩
    refine w_pass hn ho' hcw hcV (fun mw' hW' => ?_)
    refine w7_isMove hn hmR.R0 (fun _ _ _ _ _ _ _ _ => ?_) (fun hno => absurd (hno P s p1 p2 s1 s2 e1 e2) id)
    refine ⟨fun _ => ?_, fun q => absurd q (by decide)⟩
    refine w7_copies (a := 0) (b := 726) (by omega) (by omega) (by omega) (fun R3 c1 c2 => ?_)
    have m3 : mR 0 (n, o, v) R3 := hmR.keep (fun j _ j2 => c2 j (by omega))
    refine w7_moves hn ho' m3 (fun R4 hO4 hf4 => ?_)
    refine w7_copies (a := 726) (b := 0) (by omega) (by omega) (by omega) (fun R6 c3 c4 => ⟨rfl, ?_⟩)
    refine ⟨⟨hn, ho', hv⟩, hk, hh, hss, ⟨rfl, hcw, hcV⟩, hcH, ?_, huk, fun i hi => ?_⟩
    · have m4 : mR 726 (n, o, v) R4 := (hmR.copy (a := 0) (b := 726) c1).keep (fun j j1 _ => hf4 j (Or.inr (by omega)))
      exact m4.copy c3
    · exact (hmH i hi).keep (fun j j1 j2 => by rw [c4 j (by omega), hf4 j (Or.inr (by omega)), c2 j (by omega)])
  · exact w7_isMove hn hmR.R0 (fun P s p1 p2 s1 s2 e1 e2 => absurd (hno P s p1 p2 s1 s2 e1 e2) id) (fun _ => ⟨fun q => absurd rfl q, fun _ => ⟨rfl, hS0⟩⟩)
end MOVES
