/-! what the class's cake does, method by method -/
theorem w_isGuest {n : Nat} {x : Int32} {Z : Int32 → Prop} (hn : n ≤ 4) (h1 : ∀ g, g < n → x = nI g → Z 1) (h0 : (∀ g, g < n → x ≠ nI g) → Z 0) : Wp_X0_isGuest (nI n) x Z := by
  rcases pk_ix x (n := n) (by omega) with h | h | ⟨g, hg, rfl⟩
  · exact ⟨fun _ => h0 (fun g hg e => by subst e; exact nI_pos (by omega) h), fun q => absurd h q⟩
  · refine ⟨fun _ => h0 (fun g hg e => by subst e; exact nI_ge hg (by omega) h), fun _ => ⟨fun _ => h0 (fun g hg e => by subst e; exact nI_ge hg (by omega) h), fun q => absurd h q⟩⟩
  · exact pk_lt g 0 (fun q => absurd q (by omega)) (fun _ => pk_le n g (fun q => absurd q (by omega)) (fun _ => h1 g hg rfl))
theorem w_isGuestb {n : Nat} {x : Int32} {Z : Int32 → Prop} (hn : n ≤ 4) (b : Bool) (hb : b = true ↔ ∃ g, g < n ∧ x = nI g) (hz : Z (bI b)) : Wp_X0_isGuest (nI n) x Z := by
  refine w_isGuest hn (fun g hg e => ?_) (fun h => ?_)
  · have : b = true := hb.mpr ⟨g, hg, e⟩
    subst this; exact hz
  · have : b = false := by
      cases hq : b with
      | false => rfl
      | true => obtain ⟨g, hg, e⟩ := hb.mp hq; exact absurd e (h g hg)
    subst this; exact hz
theorem w_spanWorth {cV : Nat → Nat → Int32} {v : Nat → Nat → Nat} {g a b : Nat} {Z : Int32 → Prop} (hg : g < 4) (hb : b < 24) (hV : rV v cV) (hab : a ≤ b + 1) (hz : Z (nI (sg (v g) a (b + 1 - a)))) : Wp_X0_spanWorth cV (nI g) (nI a) (nI b) Z := by
  have key : ∀ d c s, c + d = b + 1 → Z (nI (s + sg (v g) c d)) → Wp_X0_spanWorth_6 cV (nI g) (nI a) (nI b) Z (nI s) (nI c) := by
    intro d
    induction d with
    | zero =>
      intro c s h hz
      refine F_X0_spanWorth_6 _ _ _ _ _ _ _ ?_
      exact pk_lt b c (fun _ => hz) (fun q => absurd q (by omega))
    | succ d ih =>
      intro c s h hz
      refine F_X0_spanWorth_6 _ _ _ _ _ _ _ ?_
      refine pk_lt b c (fun q => absurd q (by omega)) (fun _ => ⟨q_in hg, q_in (show c < 24 by omega), ?_⟩)
      rw [q_cl g, q_cl c, hV g c hg (by omega), nI_add, nI_1]
      refine ih (c + 1) (s + v g c) (by omega) ?_
      rw [Nat.add_assoc]
      exact hz
  refine key (b + 1 - a) a 0 (by omega) ?_
  rw [Nat.zero_add]
  exact hz
theorem w_total {cV : Nat → Nat → Int32} {v : Nat → Nat → Nat} {g : Nat} {Z : Int32 → Prop} (hg : g < 4) (hV : rV v cV) (hz : Z (nI (To v g))) : Wp_X0_total cV (nI g) Z :=
  w_spanWorth (a := 0) (b := 23) hg (by omega) hV (by omega) hz
theorem w_worthWithin {cw : Nat → Int32} {cV : Nat → Nat → Int32} {v : Nat → Nat → Nat} {o : Nat → Nat} {n g h a b : Nat} {Z : Int32 → Prop} (hn : n ≤ 4) (ho : okO n o) (hg : g < 4) (hh : h ≤ 4) (hb : b < 24) (hW : rW o cw) (hV : rV v cV) (hab : a ≤ b + 1) (hz : Z (nI (sg (wo v o g h) a (b + 1 - a)))) : Wp_X0_worthWithin cw cV (nI g) (oI h) (nI a) (nI b) Z := by
  have key : ∀ d c s, c + d = b + 1 → Z (nI (s + sg (wo v o g h) c d)) → Wp_X0_worthWithin_6 cw cV (nI g) (oI h) (nI a) (nI b) Z (nI s) (nI c) := by
    intro d
    induction d with
    | zero =>
      intro c s h hz
      refine F_X0_worthWithin_6 _ _ _ _ _ _ _ _ _ ?_
      exact pk_lt b c (fun _ => hz) (fun q => absurd q (by omega))
    | succ d ih =>
      intro c s hcd hz
      refine F_X0_worthWithin_6 _ _ _ _ _ _ _ _ _ ?_
      have hc : c < 24 := by omega
      have hoc := ho c hc
      refine pk_lt b c (fun q => absurd q (by omega)) (fun _ => ⟨q_in hc, ?_⟩)
      rw [q_cl c, hW c hc]
      refine po_ne (o c) h (fun e => ?_) (fun e => ⟨q_in hg, ?_⟩)
      · rw [nI_1]
        refine ih (c + 1) s (by omega) ?_
        have e2 : sg (wo v o g h) c (d + 1) = sg (wo v o g h) (c + 1) d := by
          show wo v o g h c + _ = _
          rw [show wo v o g h c = 0 from if_neg e, Nat.zero_add]
        rw [e2] at hz
        exact hz
      · rw [q_cl g, hV g c hg hc, nI_add, nI_1]
        refine ih (c + 1) (s + v g c) (by omega) ?_
        have e2 : sg (wo v o g h) c (d + 1) = v g c + sg (wo v o g h) (c + 1) d := by
          show wo v o g h c + _ = _
          rw [show wo v o g h c = v g c from if_pos e]
        rw [e2, ← Nat.add_assoc] at hz
        exact hz
  refine key (b + 1 - a) a 0 (by omega) ?_
  rw [Nat.zero_add]
  exact hz
theorem w_worth {cw : Nat → Int32} {cV : Nat → Nat → Int32} {v : Nat → Nat → Nat} {o : Nat → Nat} {n g h : Nat} {Z : Int32 → Prop} (hn : n ≤ 4) (ho : okO n o) (hg : g < 4) (hh : h ≤ 4) (hW : rW o cw) (hV : rV v cV) (hz : Z (nI (Wo v o g h))) : Wp_X0_worth cw cV (nI g) (oI h) Z :=
  w_worthWithin (a := 0) (b := 23) hn ho hg hh (by omega) hW hV (by omega) hz
theorem q_max0 (a b : Nat) (ha : a < 2 ^ 30) (hb : b < 2 ^ 30) : (if (0 : Int32) < nI a - nI b then nI a - nI b else 0) = nI (a - b) := by
  by_cases h : b < a
  · have hp : (0 : Int32) < nI (a - b) := nI_lt (a := 0) (by omega) (by omega)
    rw [pk_sub (by omega), if_pos hp]
  · by_cases h2 : a = b
    · subst h2
      rw [pk_sub (Nat.le_refl a), Nat.sub_self]
      rfl
    · rw [if_neg (fun q => ?_), show a - b = 0 by omega]
      · rfl
      · have h3 := pk_sneg (a := a) (b := b) hb (by omega)
        have q1 := Int32.lt_iff_toInt_lt.mp q
        have q2 := Int32.lt_iff_toInt_lt.mp h3
        omega
theorem w_envyOf {cw : Nat → Int32} {cV : Nat → Nat → Int32} {v : Nat → Nat → Nat} {o : Nat → Nat} {n g k : Nat} {Z : Int32 → Prop} (hn : n ≤ 4) (ho : okO n o) (hv : okV v) (hg : g < 4) (hk : k < 4) (hW : rW o cw) (hV : rV v cV) (hz : Z (nI (En v o g k))) : Wp_X0_envyOf cw cV (nI g) (nI k) Z := by
  refine w_worth (h := k + 1) hn ho hg (by omega) hW hV ?_
  refine w_worth (h := g + 1) hn ho hg (by omega) hW hV ?_
  have b1 := Wo_le (o := o) (h := k + 1) hv hg
  have b2 := Wo_le (o := o) (h := g + 1) hv hg
  show Z (if (0 : Int32) < nI (Wo v o g (k + 1)) - nI (Wo v o g (g + 1)) then nI (Wo v o g (k + 1)) - nI (Wo v o g (g + 1)) else 0)
  rw [q_max0 _ _ (by omega) (by omega)]
  exact hz
def cn (o : Nat → Nat) (h : Nat) : Nat → Nat := fun c => if o c = h then 1 else 0
theorem w_crumbsOf {cw : Nat → Int32} {o : Nat → Nat} {n h : Nat} {Z : Int32 → Prop} (hn : n ≤ 4) (ho : okO n o) (hh : h ≤ 4) (hW : rW o cw) (hz : Z (nI (sg (cn o h) 0 24))) : Wp_X0_crumbsOf cw (oI h) Z := by
  have key : ∀ d c s, c + d = 24 → Z (nI (s + sg (cn o h) c d)) → Wp_X0_crumbsOf_4 cw (oI h) Z (nI s) (nI c) := by
    intro d
    induction d with
    | zero =>
      intro c s hcd hz
      refine F_X0_crumbsOf_4 _ _ _ _ _ ?_
      exact pk_le 24 c (fun _ => hz) (fun q => absurd q (by omega))
    | succ d ih =>
      intro c s hcd hz
      refine F_X0_crumbsOf_4 _ _ _ _ _ ?_
      have hc : c < 24 := by omega
      have hoc := ho c hc
      refine pk_le 24 c (fun q => absurd q (by omega)) (fun _ => ⟨q_in hc, ?_⟩)
      rw [q_cl c, hW c hc]
      refine po_ne (o c) h (fun e => ?_) (fun e => ?_)
      · rw [nI_1]
        refine ih (c + 1) s (by omega) ?_
        have e2 : sg (cn o h) c (d + 1) = sg (cn o h) (c + 1) d := by
          show cn o h c + _ = _
          rw [show cn o h c = 0 from if_neg e, Nat.zero_add]
        rw [e2] at hz
        exact hz
      · rw [nI_1, nI_1]
        refine ih (c + 1) (s + 1) (by omega) ?_
        have e2 : sg (cn o h) c (d + 1) = 1 + sg (cn o h) (c + 1) d := by
          show cn o h c + _ = _
          rw [show cn o h c = 1 from if_pos e]
        rw [e2, ← Nat.add_assoc] at hz
        exact hz
  refine key 24 0 0 (by omega) ?_
  rw [Nat.zero_add]
  exact hz
def sp (o : Nat → Nat) (h : Nat) : Nat → Nat := fun c => if o c = h ∧ (c = 0 ∨ o (c - 1) ≠ h) then 1 else 0
theorem w_spansOf {cw : Nat → Int32} {o : Nat → Nat} {n h : Nat} {Z : Int32 → Prop} (hn : n ≤ 4) (ho : okO n o) (hh : h ≤ 4) (hW : rW o cw) (hz : Z (nI (sg (sp o h) 0 24))) : Wp_X0_spansOf cw (oI h) Z := by
  have key : ∀ d c s, c + d = 24 → Z (nI (s + sg (sp o h) c d)) → Wp_X0_spansOf_4 cw (oI h) Z (nI s) (nI c) := by
    intro d
    induction d with
    | zero =>
      intro c s hcd hz
      refine F_X0_spansOf_4 _ _ _ _ _ ?_
      exact pk_le 24 c (fun _ => hz) (fun q => absurd q (by omega))
    | succ d ih =>
      intro c s hcd hz
      refine F_X0_spansOf_4 _ _ _ _ _ ?_
      have hc : c < 24 := by omega
      have hoc := ho c hc
      have no : sp o h c = 0 → Wp_X0_spansOf_4 cw (oI h) Z (nI s) (nI c + 1) := fun e => by
        rw [nI_1]
        refine ih (c + 1) s (by omega) ?_
        have e2 : sg (sp o h) c (d + 1) = sg (sp o h) (c + 1) d := by
          show sp o h c + _ = _
          rw [e, Nat.zero_add]
        rw [e2] at hz
        exact hz
      have yes : sp o h c = 1 → Wp_X0_spansOf_4 cw (oI h) Z (nI s + 1) (nI c + 1) := fun e => by
        rw [nI_1, nI_1]
        refine ih (c + 1) (s + 1) (by omega) ?_
        have e2 : sg (sp o h) c (d + 1) = 1 + sg (sp o h) (c + 1) d := by
          show sp o h c + _ = _
          rw [e]
        rw [e2, ← Nat.add_assoc] at hz
        exact hz
      refine pk_le 24 c (fun q => absurd q (by omega)) (fun _ => ⟨q_in hc, ?_⟩)
      rw [q_cl c, hW c hc]
      refine po_ne (o c) h (fun e => no (if_neg (fun q => e q.1))) (fun e => ?_)
      refine pk_eq c 0 (fun e0 => yes (if_pos ⟨e, Or.inl e0⟩)) (fun e0 => ?_)
      obtain ⟨k, rfl⟩ : ∃ k, c = k + 1 := ⟨c - 1, by omega⟩
      rw [nI_pred, q_cl k, hW k (by omega)]
      have hok := ho k (by omega)
      refine ⟨q_in (by omega), ?_⟩
      exact po_eq (o k) h (fun e1 => no (if_neg (fun q => q.2.elim (fun z => e0 z) (fun z => z e1)))) (fun e1 => yes (if_pos ⟨e, Or.inr e1⟩))
  refine key 24 0 0 (by omega) ?_
  rw [Nat.zero_add]
  exact hz
theorem w_liesOnTable {cw : Nat → Int32} {o : Nat → Nat} {n a b : Nat} {Z : Int32 → Prop} (hn : n ≤ 4) (ho : okO n o) (hb : b < 24) (hab : a ≤ b + 1) (hW : rW o cw) (h1 : (∀ c, a ≤ c → c ≤ b → o c = 0) → Z 1) (h0 : (∃ c, a ≤ c ∧ c ≤ b ∧ o c ≠ 0) → Z 0) : Wp_X0_liesOnTable cw (nI a) (nI b) Z := by
  have key : ∀ d c, c + d = b + 1 → a ≤ c → (∀ j, a ≤ j → j < c → o j = 0) → Wp_X0_liesOnTable_2 cw (nI a) (nI b) Z (nI c) := by
    intro d
    induction d with
    | zero =>
      intro c hcd hac hall
      refine F_X0_liesOnTable_2 _ _ _ _ _ ?_
      exact pk_lt b c (fun _ => h1 (fun j j1 j2 => hall j j1 (by omega))) (fun q => absurd q (by omega))
    | succ d ih =>
      intro c hcd hac hall
      refine F_X0_liesOnTable_2 _ _ _ _ _ ?_
      have hc : c < 24 := by omega
      have hoc := ho c hc
      refine pk_lt b c (fun q => absurd q (by omega)) (fun _ => ⟨q_in hc, ?_⟩)
      rw [q_cl c, hW c hc]
      refine po_eq (o c) 0 (fun e => ?_) (fun e => h0 ⟨c, hac, by omega, e⟩)
      rw [nI_1]
      refine ih (c + 1) (by omega) (by omega) (fun j j1 j2 => ?_)
      by_cases hj : j = c
      · rw [hj]; exact e
      · exact hall j j1 (by omega)
  exact key (b + 1 - a) a (by omega) (Nat.le_refl a) (fun j j1 j2 => absurd j2 (by omega))
/-- crumbs of a span that lie on the table come to an owner h; how many (k before) -/
def ho (h : Nat) : Nat → Nat → (Nat → Nat) → Nat → (Nat → Nat) × Nat
  | 0, _, o, k => (o, k)
  | d + 1, c, o, k => if o c = 0 then ho h d (c + 1) (up o c h) (k + 1) else ho h d (c + 1) o k
/-- crumbs of a span come back to the table -/
def tb : Nat → Nat → (Nat → Nat) → Nat → (Nat → Nat) × Nat
  | 0, _, o, k => (o, k)
  | d + 1, c, o, k => if o c = 0 then tb d (c + 1) o k else tb d (c + 1) (up o c 0) (k + 1)
theorem rW_up {o : Nat → Nat} {cw : Nat → Int32} {c h : Nat} (hW : rW o cw) : rW (up o c h) (upd cw c (oI h)) := fun j hj => by
  by_cases e : j = c
  · subst e
    rw [up_s, pk_us]
  · rw [up_n e, pk_un e]
    exact hW j hj
theorem okO_up {n : Nat} {o : Nat → Nat} {c h : Nat} (ho : okO n o) (hh : h ≤ n) : okO n (up o c h) := fun j hj => by
  by_cases e : j = c
  · subst e
    rw [up_s]; exact hh
  · rw [up_n e]
    exact ho j hj
theorem ho_ok {n h : Nat} (hh : h ≤ n) : ∀ d c o k, okO n o → okO n (ho h d c o k).1
  | 0, _, _, _, ho => ho
  | d + 1, c, o, k, h1 => by
    unfold ho
    split
    · exact ho_ok hh d (c + 1) _ _ (okO_up h1 hh)
    · exact ho_ok hh d (c + 1) _ _ h1
theorem tb_ok {n : Nat} : ∀ d c o k, okO n o → okO n (tb d c o k).1
  | 0, _, _, _, ho => ho
  | d + 1, c, o, k, h1 => by
    unfold tb
    split
    · exact tb_ok d (c + 1) _ _ h1
    · exact tb_ok d (c + 1) _ _ (okO_up h1 (by omega))
theorem w_handOut {cw : Nat → Int32} {o : Nat → Nat} {n h a b : Nat} {Z : Int32 → (Nat → Int32) → Prop} (hn : n ≤ 4) (hok : okO n o) (hh : h ≤ n) (hb : b < 24) (hab : a ≤ b + 1) (hW : rW o cw) (hz : ∀ cw', rW (ho h (b + 1 - a) a o 0).1 cw' → Z (nI (ho h (b + 1 - a) a o 0).2) cw') : Wp_X0_handOut cw (oI h) (nI a) (nI b) Z := by
  have key : ∀ d c k o cw, c + d = b + 1 → okO n o → rW o cw → (∀ cw', rW (ho h d c o k).1 cw' → Z (nI (ho h d c o k).2) cw') → Wp_X0_handOut_6 (oI h) (nI a) (nI b) Z (nI k) (nI c) cw := by
    intro d
    induction d with
    | zero =>
      intro c k o cw hcd hok hW hz
      refine F_X0_handOut_6 _ _ _ _ _ _ _ ?_
      exact pk_lt b c (fun _ => hz cw hW) (fun q => absurd q (by omega))
    | succ d ih =>
      intro c k o cw hcd hok hW hz
      refine F_X0_handOut_6 _ _ _ _ _ _ _ ?_
      have hc : c < 24 := by omega
      have hoc := hok c hc
      refine pk_lt b c (fun q => absurd q (by omega)) (fun _ => ⟨q_in hc, ?_⟩)
      rw [q_cl c, hW c hc]
      unfold ho at hz
      refine po_ne (o c) 0 (fun e => ?_) (fun e => ?_)
      · rw [if_neg e] at hz
        rw [nI_1]
        exact ih (c + 1) k o cw (by omega) hok hW hz
      · rw [if_pos e] at hz
        rw [nI_1, nI_1]
        exact ih (c + 1) (k + 1) (up o c h) _ (by omega) (okO_up hok hh) (rW_up hW) hz
  exact key (b + 1 - a) a 0 o cw (by omega) hok hW hz
theorem w_takeBack {cw : Nat → Int32} {o : Nat → Nat} {n a b : Nat} {Z : Int32 → (Nat → Int32) → Prop} (hn : n ≤ 4) (hok : okO n o) (hb : b < 24) (hab : a ≤ b + 1) (hW : rW o cw) (hz : ∀ cw', rW (tb (b + 1 - a) a o 0).1 cw' → Z (nI (tb (b + 1 - a) a o 0).2) cw') : Wp_X0_takeBack cw (nI a) (nI b) Z := by
  have key : ∀ d c k o cw, c + d = b + 1 → okO n o → rW o cw → (∀ cw', rW (tb d c o k).1 cw' → Z (nI (tb d c o k).2) cw') → Wp_X0_takeBack_5 (nI a) (nI b) Z (nI k) (nI c) cw := by
    intro d
    induction d with
    | zero =>
      intro c k o cw hcd hok hW hz
      refine F_X0_takeBack_5 _ _ _ _ _ _ ?_
      exact pk_lt b c (fun _ => hz cw hW) (fun q => absurd q (by omega))
    | succ d ih =>
      intro c k o cw hcd hok hW hz
      refine F_X0_takeBack_5 _ _ _ _ _ _ ?_
      have hc : c < 24 := by omega
      have hoc := hok c hc
      refine pk_lt b c (fun q => absurd q (by omega)) (fun _ => ⟨q_in hc, ?_⟩)
      rw [q_cl c, hW c hc]
      unfold tb at hz
      refine po_eq (o c) 0 (fun e => ?_) (fun e => ?_)
      · rw [if_pos e] at hz
        rw [nI_1]
        exact ih (c + 1) k o cw (by omega) hok hW hz
      · rw [if_neg e] at hz
        rw [nI_1, nI_1]
        exact ih (c + 1) (k + 1) (up o c 0) _ (by omega) (okO_up hok (by omega)) (rW_up (h := 0) hW) hz
  exact key (b + 1 - a) a 0 o cw (by omega) hok hW hz
/-- a guest's values of the places a .. a + d - 1 are x -/
def sv (g x a d : Nat) (v : Nat → Nat → Nat) : Nat → Nat → Nat := fun k c => if k = g ∧ a ≤ c ∧ c < a + d then x else v k c
theorem sv_ok {g x a d : Nat} {v : Nat → Nat → Nat} (hx : x ≤ 9) (hv : okV v) : okV (sv g x a d v) := fun k c hk hc => by
  unfold sv
  split
  · exact hx
  · exact hv k c hk hc
theorem w_setValues {cV : Nat → Nat → Int32} {v : Nat → Nat → Nat} {g x a b : Nat} {Z : (Nat → Nat → Int32) → Prop} (hg : g < 4) (hb : b < 24) (hab : a ≤ b + 1) (hV : rV v cV) (hz : ∀ cV', rV (sv g x a (b + 1 - a) v) cV' → Z cV') : Wp_X0_setValues cV (nI g) (nI a) (nI b) (nI x) Z := by
  have key : ∀ d c cV, c + d = b + 1 → a ≤ c → rV (sv g x a (c - a) v) cV → Wp_X0_setValues_3 (nI g) (nI a) (nI b) (nI x) Z (nI c) cV := by
    intro d
    induction d with
    | zero =>
      intro c cV hcd hac hV
      refine F_X0_setValues_3 _ _ _ _ _ _ _ ?_
      refine pk_lt b c (fun _ => hz cV ?_) (fun q => absurd q (by omega))
      rw [show b + 1 - a = c - a by omega]
      exact hV
    | succ d ih =>
      intro c cV hcd hac hV
      refine F_X0_setValues_3 _ _ _ _ _ _ _ ?_
      refine pk_lt b c (fun q => absurd q (by omega)) (fun _ => ⟨q_in hg, q_in (show c < 24 by omega), ?_⟩)
      rw [q_cl g, q_cl c, nI_1]
      refine ih (c + 1) _ (by omega) (by omega) (fun k j hk hj => ?_)
      unfold va_up
      by_cases e : k = g
      · subst e
        rw [if_pos rfl]
        by_cases e2 : j = c
        · subst e2
          rw [pk_us]
          unfold sv
          rw [if_pos ⟨rfl, by omega, by omega⟩]
        · rw [pk_un e2, hV k j hk hj]
          unfold sv
          by_cases e3 : a ≤ j ∧ j < a + (c - a)
          · rw [if_pos ⟨rfl, e3⟩, if_pos ⟨rfl, by omega, by omega⟩]
          · rw [if_neg (fun q => e3 q.2), if_neg (fun q => e3 ⟨q.2.1, by omega⟩)]
      · rw [if_neg e, hV k j hk hj]
        unfold sv
        rw [if_neg (fun q => e q.1), if_neg (fun q => e q.1)]
  refine key (b + 1 - a) a cV (by omega) (Nat.le_refl a) (fun k j hk hj => ?_)
  rw [hV k j hk hj]
  unfold sv
  rw [if_neg (fun q => by omega)]
/-- the difference of two numbers -/
def df (a b : Nat) : Nat := a - b + (b - a)
/-- the difference of both parts of a span of e crumbs from a on, cut ahead of c -/
def cd (f : Nat → Nat) (a e c : Nat) : Nat := df (sg f a (c - a)) (sg f c (a + e - c))
/-- the best cut so far, at the places c .. c + d - 1 -/
def fc (f : Nat → Nat) (a e : Nat) : Nat → Nat → Nat → Nat → Nat
  | 0, _, p, _ => p
  | d + 1, c, p, m => if cd f a e c < m then fc f a e d (c + 1) c (cd f a e c) else fc f a e d (c + 1) p m
def cutOf (f : Nat → Nat) (a b : Nat) : Nat := fc f a (b + 1 - a) (b - a - 1) (a + 2) (a + 1) (cd f a (b + 1 - a) (a + 1))
theorem fc_in {f : Nat → Nat} {a e : Nat} : ∀ d c p m, a < p → p < c → a < c → a < fc f a e d c p m ∧ fc f a e d c p m < c + d
  | 0, _, _, _, h1, h2, _ => ⟨h1, h2⟩
  | d + 1, c, p, m, h1, h2, h3 => by
    unfold fc
    split
    · have := fc_in (f := f) (e := e) d (c + 1) c (cd f a e c) h3 (by omega) (by omega)
      omega
    · have := fc_in (f := f) (e := e) d (c + 1) p m h1 (by omega) (by omega)
      omega
theorem cutOf_in {f : Nat → Nat} {a b : Nat} (h : a < b) : a < cutOf f a b ∧ cutOf f a b ≤ b := by
  have := fc_in (f := f) (a := a) (e := b + 1 - a) (b - a - 1) (a + 2) (a + 1) (cd f a (b + 1 - a) (a + 1)) (by omega) (by omega) (by omega)
  unfold cutOf
  omega
theorem q_abs (w l r : Nat) (hw : w = l + r) (hb : w < 2 ^ 29) : (if 0 ≤ nI w - (2 : Int32) * nI l then nI w - (2 : Int32) * nI l else 0 - (nI w - (2 : Int32) * nI l)) = nI (df l r) := by
  have e2 : (2 : Int32) * nI l = nI (2 * l) := pk_mul 2 l
  rw [e2]
  unfold df
  by_cases h : 2 * l ≤ w
  · have hp : (0 : Int32) ≤ nI (w - 2 * l) := nI_le (a := 0) (by omega) (by omega)
    rw [pk_sub h, if_pos hp]
    congr 1
    omega
  · have hs := pk_sneg (a := w) (b := 2 * l) (by omega) (by omega)
    rw [if_neg (fun q => ?_)]
    · have e3 : (0 : Int32) - (nI w - nI (2 * l)) = nI (2 * l) - nI w := by
        rw [Int32.zero_sub, Int32.neg_sub]
      rw [e3, pk_sub (by omega)]
      congr 1
      omega
    · have q1 := Int32.le_iff_toInt_le.mp q
      have q2 := Int32.lt_iff_toInt_lt.mp hs
      omega
theorem w_findCut {cV : Nat → Nat → Int32} {v : Nat → Nat → Nat} {g a b : Nat} {Z : Int32 → Prop} (hg : g < 4) (hb : b < 24) (hv : okV v) (hV : rV v cV) (hab : a < b) (hz : Z (nI (cutOf (v g) a b))) : Wp_X0_findCut cV (nI g) (nI a) (nI b) Z := by
  refine w_spanWorth hg hb hV (by omega) ?_
  obtain ⟨e, he⟩ : ∃ e, e = b + 1 - a := ⟨_, rfl⟩
  have hcut : cutOf (v g) a b = fc (v g) a e (b - a - 1) (a + 2) (a + 1) (cd (v g) a e (a + 1)) := by unfold cutOf; rw [he]
  rw [← he]
  have hw : sg (v g) a e ≤ 216 := sgv_le hv hg (by omega)
  have hwl : ∀ c, a ≤ c → c ≤ b + 1 → sg (v g) a e = sg (v g) a (c - a) + sg (v g) c (a + e - c) := fun c h1 h2 => by
    have := sg_add (v g) (c - a) a (a + e - c)
    rw [show c - a + (a + e - c) = e by omega, show a + (c - a) = c by omega] at this
    exact this
  have step : ∀ (c p m : Nat) (J : Int32 → Int32 → Int32 → Int32 → Int32 → Prop), a < c → c ≤ b → m < 2 ^ 20 →
      ((m ≤ cd (v g) a e c → J (nI (sg (v g) a e)) (nI (sg (v g) a (c - a))) (nI p) (nI m) (nI (c + 1))) ∧ (cd (v g) a e c < m → J (nI (sg (v g) a e)) (nI (sg (v g) a (c - a))) (nI c) (nI (cd (v g) a e c)) (nI (c + 1)))) →
      B_X0_findCut_28 cV (nI g) (nI a) (nI b) Z J (nI (sg (v g) a e)) (nI (sg (v g) a (c - 1 - a))) (nI p) (nI m) (nI c) := by
    intro c p m J h1 h2 hm hJ
    unfold B_X0_findCut_28
    obtain ⟨k, rfl⟩ : ∃ k, c = k + 1 := ⟨c - 1, by omega⟩
    refine pk_lt b (k + 1) (fun q => absurd q (by omega)) (fun _ => ⟨q_in hg, ?_⟩)
    rw [nI_pred, q_cl g, q_cl k, hV g k hg (by omega), nI_add, nI_1]
    have el : sg (v g) a (k + 1 - 1 - a) + v g k = sg (v g) a (k + 1 - a) := by
      have := sg_last (v g) a (k - a)
      rw [show k - a + 1 = k + 1 - a by omega, show a + (k - a) = k by omega] at this
      rw [show k + 1 - 1 - a = k - a by omega]
      exact this.symm
    rw [el, q_abs _ _ _ (hwl (k + 1) (by omega) (by omega)) (by omega)]
    have hcd : df (sg (v g) a (k + 1 - a)) (sg (v g) (k + 1) (a + e - (k + 1))) = cd (v g) a e (k + 1) := rfl
    rw [hcd]
    have hb2 : cd (v g) a e (k + 1) ≤ 216 := by
      have := hwl (k + 1) (by omega) (by omega)
      unfold cd df
      omega
    refine ⟨q_in (by omega), ?_⟩
    exact pk_le m (cd (v g) a e (k + 1)) hJ.1 hJ.2
  have key : ∀ d c p m, c + d = b + 1 → a < c → m < 2 ^ 20 → Z (nI (fc (v g) a e d c p m)) → Wp_X0_findCut_28 cV (nI g) (nI a) (nI b) Z (nI (sg (v g) a e)) (nI (sg (v g) a (c - 1 - a))) (nI p) (nI m) (nI c) := by
    intro d
    induction d with
    | zero =>
      intro c p m hcd hac hm hz
      refine F_X0_findCut_28 _ _ _ _ _ _ _ _ _ _ ?_
      exact pk_lt b c (fun _ => hz) (fun q => absurd q (by omega))
    | succ d ih =>
      intro c p m hcd hac hm hz
      refine F_X0_findCut_28 _ _ _ _ _ _ _ _ _ _ ?_
      refine step c p m _ hac (by omega) hm ⟨fun q => ?_, fun q => ?_⟩
      · refine ih (c + 1) p m (by omega) (by omega) hm ?_
        unfold fc at hz
        rw [if_neg (by omega)] at hz
        exact hz
      · refine ih (c + 1) c _ (by omega) (by omega) (by omega) ?_
        unfold fc at hz
        rw [if_pos q] at hz
        exact hz
  have e1 : nI a + 1 = nI (a + 1) := nI_1 a
  show Wp_X0_findCut_28 cV (nI g) (nI a) (nI b) Z (nI (sg (v g) a e)) 0 (nI a + 1) (nI (sg (v g) a e) + 1) (nI a + 1)
  rw [e1, nI_1]
  have e0 : (0 : Int32) = nI (sg (v g) a (a + 1 - 1 - a)) := by rw [show a + 1 - 1 - a = 0 by omega]; rfl
  rw [e0]
  refine F_X0_findCut_28 _ _ _ _ _ _ _ _ _ _ ?_
  refine step (a + 1) (a + 1) _ _ (by omega) (by omega) (by omega) ⟨fun q => ?_, fun q => ?_⟩
  · have := hwl (a + 1) (by omega) (by omega)
    unfold cd df at q
    omega
  · refine key (b - a - 1) (a + 2) (a + 1) _ (by omega) (by omega) ?_ ?_
    · have := hwl (a + 1) (by omega) (by omega)
      omega
    · rw [← hcut]; exact hz
/-- trimming: at the crumbs below c, while the other one envies -/
def tr (v : Nat → Nat → Nat) (g k : Nat) : Nat → (Nat → Nat) → Nat → (Nat → Nat) × Nat
  | 0, o, n => (o, n)
  | c + 1, o, n => if o c = g + 1 ∧ Wo v o k (k + 1) < Wo v o k (g + 1) then tr v g k c (up o c 0) (n + 1) else tr v g k c o n
theorem tr_ok {v : Nat → Nat → Nat} {g k m : Nat} : ∀ c o n, okO m o → okO m (tr v g k c o n).1
  | 0, _, _, h => h
  | c + 1, o, n, h => by
    unfold tr
    split
    · exact tr_ok c _ _ (okO_up h (by omega))
    · exact tr_ok c _ _ h
theorem tr_stop {v : Nat → Nat → Nat} {g k : Nat} (c : Nat) (o : Nat → Nat) (n : Nat) (h : ¬ Wo v o k (k + 1) < Wo v o k (g + 1)) : tr v g k c o n = (o, n) := by
  induction c with
  | zero => unfold tr; rfl
  | succ c ih =>
    unfold tr
    rw [if_neg (fun q => h q.2)]
    exact ih
theorem Wo_up_other {v : Nat → Nat → Nat} {o : Nat → Nat} {g h c x : Nat} (h1 : o c ≠ h) (h2 : x ≠ h) : Wo v (up o c x) g h = Wo v o g h := by
  refine sg_congr 24 0 (fun j _ _ => ?_)
  unfold wo
  by_cases e : j = c
  · subst e
    rw [up_s, if_neg h2, if_neg h1]
  · rw [up_n e]
theorem Wo_up_less {v : Nat → Nat → Nat} {o : Nat → Nat} {g h c x : Nat} (hc : c < 24) (h1 : o c = h) (h2 : x ≠ h) : Wo v (up o c x) g h + v g c = Wo v o g h := by
  have e1 : wo v o g h c = v g c := if_pos h1
  have e2 : wo v (up o c x) g h c = 0 := by unfold wo; rw [up_s, if_neg h2]
  have := sg_up0 (f := wo v o g h) (g := wo v (up o c x) g h) (k := c) 24 0 (by omega) (by omega) (fun j _ _ hj => by unfold wo; rw [up_n hj]) e2
  rw [e1] at this
  exact this
theorem w_trimPiece {cw : Nat → Int32} {cV : Nat → Nat → Int32} {v : Nat → Nat → Nat} {o : Nat → Nat} {n g k : Nat} {Z : Int32 → (Nat → Int32) → Prop} (hn : n ≤ 4) (hok : okO n o) (hv : okV v) (hg : g < n) (hk : k < n) (hgk : g ≠ k) (hW : rW o cw) (hV : rV v cV) (hz : ∀ cw', rW (tr v g k 24 o 0).1 cw' → Z (nI (tr v g k 24 o 0).2) cw') : Wp_X0_trimPiece cw cV (nI g) (nI k) Z := by
  refine w_worth (h := k + 1) hn hok (by omega) (by omega) hW hV ?_
  refine w_worth (h := g + 1) hn hok (by omega) (by omega) hW hV ?_
  have out : ∀ (c t : Nat) (o' : Nat → Nat) (cw' : Nat → Int32) (x6 : Int32) (J : Int32 → Int32 → Int32 → Int32 → (Nat → Int32) → Prop), True := fun _ _ _ _ _ _ => trivial
  have key : ∀ c t o' cw', c ≤ 24 → okO n o' → rW o' cw' → Wo v o' k (k + 1) = Wo v o k (k + 1) → (∀ cw2, rW (tr v g k c o' t).1 cw2 → Z (nI (tr v g k c o' t).2) cw2) → Wp_X0_trimPiece_22 cV (nI g) (nI k) Z (nI (Wo v o k (k + 1))) (nI (Wo v o' k (g + 1))) (nI t) (nI c + (-1)) cw' := by
    intro c
    induction c with
    | zero =>
      intro t o' cw' _ hok' hW' hm hz
      refine F_X0_trimPiece_22 _ _ _ _ _ _ _ _ _ ?_
      exact ⟨fun _ => hz cw' hW', fun q => absurd (by decide) q⟩
    | succ c ih =>
      intro t o' cw' hc24 hok' hW' hm hz
      rw [q_down]
      refine F_X0_trimPiece_22 _ _ _ _ _ _ _ _ _ ?_
      have hc : c < 24 := by omega
      have hoc := hok' c hc
      have b1 := Wo_le (o := o') (h := g + 1) hv (show k < 4 by omega)
      have b2 := Wo_le (o := o) (h := k + 1) hv (show k < 4 by omega)
      refine pk_lt c 0 (fun q => absurd q (by omega)) (fun _ => ?_)
      refine pk_le (Wo v o' k (g + 1)) (Wo v o k (k + 1)) (fun q => ?_) (fun q => ⟨q_in hc, ?_⟩)
      · rw [tr_stop (c + 1) o' t (by rw [hm]; omega)] at hz
        exact hz cw' hW'
      · rw [q_cl c, hW' c hc]
        refine po_ne (o' c) (g + 1) (fun e => ?_) (fun e => ⟨q_in (show k < 4 by omega), ?_⟩)
        · refine ih t o' cw' (by omega) hok' hW' hm ?_
          unfold tr at hz
          rw [if_neg (fun q2 => e q2.1)] at hz
          exact hz
        · have e2 := Wo_up_less (v := v) (g := k) (x := 0) hc e (by omega)
          have e3 := Wo_up_other (v := v) (g := k) (x := 0) (o := o') (c := c) (h := k + 1) (by omega) (by omega)
          rw [q_cl k, hV k c (by omega) hc, nI_1, pk_sub (by omega), show Wo v o' k (g + 1) - v k c = Wo v (up o' c 0) k (g + 1) by omega]
          refine ih (t + 1) (up o' c 0) _ (by omega) (okO_up hok' (by omega)) (rW_up (h := 0) hW') (e3.trans hm) ?_
          unfold tr at hz
          rw [if_pos ⟨e, by rw [hm]; exact q⟩] at hz
          exact hz
  exact key 24 0 o cw (Nat.le_refl _) hok hW rfl hz
/-- arrows from a guest to the guests from k on; all arrows -/
def ar1 (v : Nat → Nat → Nat) (o : Nat → Nat) (g : Nat) : Nat → Nat := fun k => if En v o g k = 0 then 0 else 1
def ar (v : Nat → Nat → Nat) (o : Nat → Nat) (n : Nat) : Nat := sg (fun g => sg (ar1 v o g) 0 n) 0 n
def ae (v : Nat → Nat → Nat) (o : Nat → Nat) (n : Nat) : Nat := sg (fun g => sg (En v o g) 0 n) 0 n
theorem En_le {v : Nat → Nat → Nat} {o : Nat → Nat} {g k : Nat} (hv : okV v) (hg : g < 4) : En v o g k ≤ 216 := by
  have := Wo_le (o := o) (h := k + 1) hv hg
  unfold En
  omega
theorem w_arrows {cw : Nat → Int32} {cV : Nat → Nat → Int32} {v : Nat → Nat → Nat} {o : Nat → Nat} {n : Nat} {Z : Int32 → Prop} (hn : n ≤ 4) (hok : okO n o) (hv : okV v) (hW : rW o cw) (hV : rV v cV) (hz : Z (nI (ar v o n))) : Wp_X0_arrows (nI n) cw cV Z := by
  have inner : ∀ d g k s, k + d = n → g < n → (Wp_X0_arrows_4 (nI n) cw cV Z (nI (s + sg (ar1 v o g) k d)) (nI (g + 1))) → Wp_X0_arrows_14 (nI n) cw cV Z (nI s) (nI g) (nI k) := by
    intro d
    induction d with
    | zero =>
      intro g k s hkd hg hnext
      refine F_X0_arrows_14 _ _ _ _ _ _ _ ?_
      refine pk_le n k (fun _ => ?_) (fun q => absurd q (by omega))
      rw [nI_1]
      exact hnext
    | succ d ih =>
      intro g k s hkd hg hnext
      refine F_X0_arrows_14 _ _ _ _ _ _ _ ?_
      refine pk_le n k (fun q => absurd q (by omega)) (fun _ => ?_)
      refine w_envyOf hn hok hv (by omega) (by omega) hW hV ?_
      have b1 := En_le (o := o) (k := k) hv (show g < 4 by omega)
      refine pk_le (En v o g k) 0 (fun q => ?_) (fun q => ?_)
      · rw [nI_1]
        refine ih g (k + 1) s (by omega) hg ?_
        have e2 : sg (ar1 v o g) k (d + 1) = sg (ar1 v o g) (k + 1) d := by
          show ar1 v o g k + _ = _
          rw [show ar1 v o g k = 0 from if_pos (by omega), Nat.zero_add]
        rw [e2] at hnext
        exact hnext
      · rw [nI_1, nI_1]
        refine ih g (k + 1) (s + 1) (by omega) hg ?_
        have e2 : sg (ar1 v o g) k (d + 1) = 1 + sg (ar1 v o g) (k + 1) d := by
          show ar1 v o g k + _ = _
          rw [show ar1 v o g k = 1 from if_neg (by omega)]
        rw [e2, ← Nat.add_assoc] at hnext
        exact hnext
  have outer : ∀ d g s, g + d = n → Z (nI (s + sg (fun g => sg (ar1 v o g) 0 n) g d)) → Wp_X0_arrows_4 (nI n) cw cV Z (nI s) (nI g) := by
    intro d
    induction d with
    | zero =>
      intro g s hgd hz
      refine F_X0_arrows_4 _ _ _ _ _ _ ?_
      exact pk_le n g (fun _ => hz) (fun q => absurd q (by omega))
    | succ d ih =>
      intro g s hgd hz
      refine F_X0_arrows_4 _ _ _ _ _ _ ?_
      refine pk_le n g (fun q => absurd q (by omega)) (fun _ => ?_)
      refine inner n g 0 s (by omega) (by omega) ?_
      refine ih (g + 1) _ (by omega) ?_
      rw [Nat.add_assoc]
      exact hz
  refine outer n 0 0 (by omega) ?_
  rw [Nat.zero_add]
  exact hz
theorem w_allEnvies {cw : Nat → Int32} {cV : Nat → Nat → Int32} {v : Nat → Nat → Nat} {o : Nat → Nat} {n : Nat} {Z : Int32 → Prop} (hn : n ≤ 4) (hok : okO n o) (hv : okV v) (hW : rW o cw) (hV : rV v cV) (hz : Z (nI (ae v o n))) : Wp_X0_allEnvies (nI n) cw cV Z := by
  have inner : ∀ d g k s, k + d = n → g < n → (Wp_X0_allEnvies_4 (nI n) cw cV Z (nI (s + sg (En v o g) k d)) (nI (g + 1))) → Wp_X0_allEnvies_14 (nI n) cw cV Z (nI s) (nI g) (nI k) := by
    intro d
    induction d with
    | zero =>
      intro g k s hkd hg hnext
      refine F_X0_allEnvies_14 _ _ _ _ _ _ _ ?_
      refine pk_le n k (fun _ => ?_) (fun q => absurd q (by omega))
      rw [nI_1]
      exact hnext
    | succ d ih =>
      intro g k s hkd hg hnext
      refine F_X0_allEnvies_14 _ _ _ _ _ _ _ ?_
      refine pk_le n k (fun q => absurd q (by omega)) (fun _ => ?_)
      refine w_envyOf hn hok hv (by omega) (by omega) hW hV ?_
      show Wp_X0_allEnvies_14 (nI n) cw cV Z (nI s + nI (En v o g k)) (nI g) (nI k + 1)
      rw [nI_add, nI_1]
      refine ih g (k + 1) (s + En v o g k) (by omega) hg ?_
      rw [Nat.add_assoc]
      exact hnext
  have outer : ∀ d g s, g + d = n → Z (nI (s + sg (fun g => sg (En v o g) 0 n) g d)) → Wp_X0_allEnvies_4 (nI n) cw cV Z (nI s) (nI g) := by
    intro d
    induction d with
    | zero =>
      intro g s hgd hz
      refine F_X0_allEnvies_4 _ _ _ _ _ _ ?_
      exact pk_le n g (fun _ => hz) (fun q => absurd q (by omega))
    | succ d ih =>
      intro g s hgd hz
      refine F_X0_allEnvies_4 _ _ _ _ _ _ ?_
      refine pk_le n g (fun q => absurd q (by omega)) (fun _ => ?_)
      refine inner n g 0 s (by omega) (by omega) ?_
      refine ih (g + 1) _ (by omega) ?_
      rw [Nat.add_assoc]
      exact hz
  refine outer n 0 0 (by omega) ?_
  rw [Nat.zero_add]
  exact hz
/-- whether a guest has its due share -/
def ct1 (v : Nat → Nat → Nat) (o : Nat → Nat) (n : Nat) : Nat → Nat := fun g => if To v g = 0 ∨ Wo v o g (g + 1) * n < To v g then 0 else 1
theorem w_contentGuests {cw : Nat → Int32} {cV : Nat → Nat → Int32} {v : Nat → Nat → Nat} {o : Nat → Nat} {n : Nat} {Z : Int32 → Prop} (hn : n ≤ 4) (hok : okO n o) (hv : okV v) (hW : rW o cw) (hV : rV v cV) (hz : Z (nI (sg (ct1 v o n) 0 n))) : Wp_X0_contentGuests (nI n) cw cV Z := by
  have key : ∀ d g s, g + d = n → Z (nI (s + sg (ct1 v o n) g d)) → Wp_X0_contentGuests_4 (nI n) cw cV Z (nI s) (nI g) := by
    intro d
    induction d with
    | zero =>
      intro g s hgd hz
      refine F_X0_contentGuests_4 _ _ _ _ _ _ ?_
      exact pk_le n g (fun _ => hz) (fun q => absurd q (by omega))
    | succ d ih =>
      intro g s hgd hz
      refine F_X0_contentGuests_4 _ _ _ _ _ _ ?_
      have hg : g < 4 := by omega
      have no : ct1 v o n g = 0 → Wp_X0_contentGuests_4 (nI n) cw cV Z (nI s) (nI g + 1) := fun e => by
        rw [nI_1]
        refine ih (g + 1) s (by omega) ?_
        have e2 : sg (ct1 v o n) g (d + 1) = sg (ct1 v o n) (g + 1) d := by
          show ct1 v o n g + _ = _
          rw [e, Nat.zero_add]
        rw [e2] at hz
        exact hz
      refine pk_le n g (fun q => absurd q (by omega)) (fun _ => ?_)
      refine w_total hg hV ?_
      have b1 := To_le hv hg
      have b2 := Wo_le (o := o) (h := g + 1) hv hg
      refine pk_le (To v g) 0 (fun q => no (if_pos (Or.inl (by omega)))) (fun q => ?_)
      refine w_worth (h := g + 1) hn hok hg (by omega) hW hV ?_
      show ((nI (Wo v o g (g + 1)) * nI n < nI (To v g) → _) ∧ _)
      rw [pk_mul]
      have b3 : Wo v o g (g + 1) * n ≤ 216 * 4 := Nat.mul_le_mul b2 hn
      refine pk_lt (Wo v o g (g + 1) * n) (To v g) (fun q => no (if_pos (Or.inr q))) (fun q2 => ?_)
      rw [nI_1, nI_1]
      refine ih (g + 1) (s + 1) (by omega) ?_
      have e2 : sg (ct1 v o n) g (d + 1) = 1 + sg (ct1 v o n) (g + 1) d := by
        show ct1 v o n g + _ = _
        rw [show ct1 v o n g = 1 from if_neg (by omega)]
      rw [e2, ← Nat.add_assoc] at hz
      exact hz
  refine key n 0 0 (by omega) ?_
  rw [Nat.zero_add]
  exact hz
