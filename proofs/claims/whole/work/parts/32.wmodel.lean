/-! what the reference's reads do -/
theorem w7_in0 {x hi : Int32} {n : Nat} {Z : Int32 → Prop} (hn : n ≤ 1000) (hhi : hi = nI n - 1) (h1 : ∀ g, g < n → x = nI g → Z 1) (h0 : (∀ g, g < n → x ≠ nI g) → Z 0) : Wp_X7_in x 0 hi Z := by
  rcases pk_ix x (n := n) (by omega) with h | h | ⟨g, hg, rfl⟩
  · exact ⟨fun _ => h0 (fun g hg e => by subst e; exact nI_pos (by omega) h), fun q => absurd h q⟩
  · have hx0 : ¬ x < 0 := fun q => by
      have q1 := Int32.lt_iff_toInt_lt.mp q
      have q2 := Int32.le_iff_toInt_le.mp h
      rw [nI_toInt (by omega)] at q2
      have : (0 : Int32).toInt = 0 := by decide
      omega
    obtain ⟨j, hj, rfl⟩ := nI_of hx0
    have hjn : n ≤ j := by
      rcases Nat.lt_or_ge j n with q | q
      · exact absurd h (nI_ge q (by omega))
      · exact q
    have z : Z 0 := h0 (fun g hg e => by
      have := (nI_eq (by omega) (by omega)).mp e
      omega)
    refine ⟨fun _ => z, fun _ => ?_⟩
    cases n with
    | zero =>
      refine ⟨fun _ => z, fun q => absurd ?_ q⟩
      subst hhi
      rw [Int32.lt_iff_toInt_lt, nI_toInt hj]
      have : (nI 0 - 1).toInt = -1 := by decide
      omega
    | succ n =>
      rw [nI_pred] at hhi
      subst hhi
      exact pk_lt n j (fun _ => z) (fun q => absurd q (by omega))
  · have z := h1 g hg rfl
    cases n with
    | zero => omega
    | succ n =>
      rw [nI_pred] at hhi
      subst hhi
      exact pk_lt g 0 (fun q => absurd q (by omega)) (fun _ => pk_lt n g (fun q => absurd q (by omega)) (fun _ => z))
theorem w7_isGuest {R : Nat → Int32} {n : Nat} {x : Int32} {Z : Int32 → Prop} (hn : n ≤ 4) (hR : R 0 = nI n) (h1 : ∀ g, g < n → x = nI g → Z 1) (h0 : (∀ g, g < n → x ≠ nI g) → Z 0) : Wp_X7_isGuest R x Z := by
  refine ⟨q_in (k := 0) (by omega), ?_⟩
  have e : R (0 : Int32).toNatClampNeg = nI n := hR
  exact w7_in0 (n := n) (by omega) (by rw [e]) (fun g hg e => ⟨nb1, h1 g hg e⟩) (fun h => ⟨nb0, h0 h⟩)
theorem w7_areGuests {R : Nat → Int32} {n : Nat} {x y : Int32} {Z : Int32 → Prop} (hn : n ≤ 4) (hR : R 0 = nI n) (h1 : ∀ g k, g < n → k < n → g ≠ k → x = nI g → y = nI k → Z 1) (h0 : (∀ g k, g < n → k < n → g ≠ k → x = nI g → y = nI k → False) → Z 0) : Wp_X7_areGuests R x y Z := by
  refine w7_isGuest hn hR (fun g hg e => ?_) (fun h => ?_)
  · refine ⟨fun q => absurd q (by decide), fun _ => ?_⟩
    refine w7_isGuest hn hR (fun k hk e2 => ?_) (fun h => ?_)
    · refine ⟨fun q => absurd q (by decide), fun _ => ?_⟩
      subst e; subst e2
      exact pk_eq g k (fun q => h0 (fun g2 k2 _ _ hne e1 e2 => by
        have a1 := (nI_eq (by omega) (by omega)).mp e1
        have a2 := (nI_eq (by omega) (by omega)).mp e2
        omega)) (fun q => h1 g k hg hk q rfl rfl)
    · exact ⟨fun _ => h0 (fun g2 k2 _ hk2 _ _ e2 => h k2 hk2 e2), fun q => absurd rfl q⟩
  · exact ⟨fun _ => h0 (fun g2 k2 hg2 _ _ e1 _ => h g2 hg2 e1), fun q => absurd rfl q⟩
theorem w7_isSpan {x y : Int32} {Z : Int32 → Prop} (h1 : ∀ a b, a ≤ b → b < 24 → x = nI a → y = nI b → Z 1) (h0 : (∀ a b, a ≤ b → b < 24 → x = nI a → y = nI b → False) → Z 0) : Wp_X7_isSpan x y Z := by
  refine w7_in0 (n := 24) (by omega) (by decide) (fun a ha e => ?_) (fun h => ?_)
  · refine ⟨fun q => absurd q (by decide), fun _ => ?_⟩
    subst e
    rcases pk_ix y (n := 24) (by omega) with h | h | ⟨b, hb, rfl⟩
    · have z : Z 0 := h0 (fun a2 b2 _ _ _ e2 => by subst e2; exact nI_pos (by omega) h)
      refine ⟨fun _ => ⟨fun _ => z, fun q => absurd rfl q⟩, fun q => absurd ?_ q⟩
      have q1 := Int32.lt_iff_toInt_lt.mp h
      have : (0 : Int32).toInt = 0 := by decide
      rw [Int32.lt_iff_toInt_lt, nI_toInt (by omega)]
      omega
    · have hx0 : ¬ y < 0 := fun q => by
        have q1 := Int32.lt_iff_toInt_lt.mp q
        have q2 := Int32.le_iff_toInt_le.mp h
        rw [nI_toInt (by omega)] at q2
        have : (0 : Int32).toInt = 0 := by decide
        omega
      obtain ⟨j, hj, rfl⟩ := nI_of hx0
      have hjn : 24 ≤ j := by
        rcases Nat.lt_or_ge j 24 with q | q
        · exact absurd h (nI_ge q (by omega))
        · exact q
      have z : Z 0 := h0 (fun a2 b2 _ hb2 _ e2 => by
        have := (nI_eq (by omega) (by omega)).mp e2
        omega)
      refine pk_lt j a (fun q => absurd q (by omega)) (fun _ => ?_)
      exact pk_lt 23 j (fun _ => ⟨fun _ => z, fun q => absurd rfl q⟩) (fun q => absurd q (by omega))
    · refine pk_lt b a (fun q => ?_) (fun q => ?_)
      · have z : Z 0 := h0 (fun a2 b2 hab _ e1 e2 => by
          have a1 := (nI_eq (by omega) (by omega)).mp e1
          have a2 := (nI_eq (by omega) (by omega)).mp e2
          omega)
        exact ⟨fun _ => z, fun q => absurd rfl q⟩
      · refine pk_lt 23 b (fun q2 => absurd q2 (by omega)) (fun _ => ?_)
        exact ⟨fun q => absurd q (by decide), fun _ => h1 a b q hb rfl rfl⟩
  · exact ⟨fun _ => h0 (fun a b hab hb e1 _ => h a (by omega) e1), fun q => absurd rfl q⟩
theorem w7_valueOf {R : Nat → Int32} {v : Nat → Nat → Nat} {g c : Nat} {Z : Int32 → Prop} (hg : g < 4) (hc : c < 24) (hV : mV v R) (hz : Z (nI (v g c))) : Wp_X7_valueOf R (nI g) (nI c) Z := by
  unfold Wp_X7_valueOf
  rw [ix_v, q_cl (25 + 24 * g + c) (by omega), hV g c hg hc]
  exact ⟨q_in (by omega), hz⟩
theorem w7_spanValue {R : Nat → Int32} {v : Nat → Nat → Nat} {g a b : Nat} {Z : Int32 → Prop} (hg : g < 4) (hb : b ≤ 24) (hV : mV v R) (hab : a ≤ b) (hz : Z (nI (sg (v g) a (b - a)))) : Wp_X7_spanValue R (nI g) (nI a) (nI b) Z := by
  have key : ∀ d c s, c + d = b → Z (nI (s + sg (v g) c d)) → Wp_X7_spanValue_6 R (nI g) (nI a) (nI b) Z (nI s) (nI c) := by
    intro d
    induction d with
    | zero =>
      intro c s h hz
      refine F_X7_spanValue_6 _ _ _ _ _ _ _ ?_
      exact pk_le b c (fun _ => hz) (fun q => absurd q (by omega))
    | succ d ih =>
      intro c s h hz
      refine F_X7_spanValue_6 _ _ _ _ _ _ _ ?_
      refine pk_le b c (fun q => absurd q (by omega)) (fun _ => ?_)
      refine w7_valueOf hg (by omega) hV ?_
      show Wp_X7_spanValue_6 R (nI g) (nI a) (nI b) Z (nI s + nI (v g c)) (nI c + 1)
      rw [nI_add, nI_1]
      refine ih (c + 1) (s + v g c) (by omega) ?_
      rw [Nat.add_assoc]
      exact hz
  refine key (b - a) a 0 (by omega) ?_
  rw [Nat.zero_add]
  exact hz
theorem w7_total {R : Nat → Int32} {v : Nat → Nat → Nat} {g : Nat} {Z : Int32 → Prop} (hg : g < 4) (hV : mV v R) (hz : Z (nI (To v g))) : Wp_X7_total R (nI g) Z :=
  w7_spanValue (a := 0) (b := 24) hg (by omega) hV (by omega) hz
theorem w7_pieceValue {R : Nat → Int32} {v : Nat → Nat → Nat} {o : Nat → Nat} {n g h : Nat} {Z : Int32 → Prop} (hn : n ≤ 4) (ho : okO n o) (hg : g < 4) (hh : h ≤ 4) (hO : mO o R) (hV : mV v R) (hz : Z (nI (Wo v o g h))) : Wp_X7_pieceValue R (nI g) (oM h) Z := by
  have key : ∀ d c s, c + d = 24 → Z (nI (s + sg (wo v o g h) c d)) → Wp_X7_pieceValue_5 R (nI g) (oM h) Z (nI s) (nI c) := by
    intro d
    induction d with
    | zero =>
      intro c s h hz
      refine F_X7_pieceValue_5 _ _ _ _ _ _ ?_
      exact pk_le 24 c (fun _ => hz) (fun q => absurd q (by omega))
    | succ d ih =>
      intro c s hcd hz
      refine F_X7_pieceValue_5 _ _ _ _ _ _ ?_
      have hc : c < 24 := by omega
      have hoc := ho c hc
      refine pk_le 24 c (fun q => absurd q (by omega)) (fun _ => ?_)
      rw [ix_o, q_cl (1 + c) (by omega), hO c hc]
      refine ⟨q_in (by omega), ?_⟩
      refine pm_ne (o c) h (fun e => ?_) (fun e => ?_)
      · show Wp_X7_pieceValue_5 R (nI g) (oM h) Z (nI s + nI 0) (nI c + 1)
        rw [nI_add, nI_1]
        refine ih (c + 1) (s + 0) (by omega) ?_
        have e2 : sg (wo v o g h) c (d + 1) = 0 + sg (wo v o g h) (c + 1) d := by
          show wo v o g h c + _ = _
          rw [show wo v o g h c = 0 from if_neg e]
        rw [e2, ← Nat.add_assoc] at hz
        exact hz
      · refine w7_valueOf hg hc hV ?_
        show Wp_X7_pieceValue_5 R (nI g) (oM h) Z (nI s + nI (v g c)) (nI c + 1)
        rw [nI_add, nI_1]
        refine ih (c + 1) (s + v g c) (by omega) ?_
        have e2 : sg (wo v o g h) c (d + 1) = v g c + sg (wo v o g h) (c + 1) d := by
          show wo v o g h c + _ = _
          rw [show wo v o g h c = v g c from if_pos e]
        rw [e2, ← Nat.add_assoc] at hz
        exact hz
  refine key 24 0 0 (by omega) ?_
  rw [Nat.zero_add]
  exact hz
theorem w7_envyOf {R : Nat → Int32} {v : Nat → Nat → Nat} {o : Nat → Nat} {n g k : Nat} {Z : Int32 → Prop} (hn : n ≤ 4) (ho : okO n o) (hv : okV v) (hg : g < 4) (hk : k < 4) (hO : mO o R) (hV : mV v R) (hz : Z (nI (En v o g k))) : Wp_X7_envyOf R (nI g) (nI k) Z := by
  refine w7_pieceValue (h := k + 1) hn ho hg (by omega) hO hV ?_
  refine w7_pieceValue (h := g + 1) hn ho hg (by omega) hO hV ?_
  have b1 := Wo_le (o := o) (h := k + 1) hv hg
  have b2 := Wo_le (o := o) (h := g + 1) hv hg
  show ((nI (Wo v o g (k + 1)) - nI (Wo v o g (g + 1)) ≤ 0 → _) ∧ (¬ nI (Wo v o g (k + 1)) - nI (Wo v o g (g + 1)) ≤ 0 → _))
  by_cases h : Wo v o g (g + 1) ≤ Wo v o g (k + 1)
  · rw [pk_sub h]
    refine pk_le (Wo v o g (k + 1) - Wo v o g (g + 1)) 0 (fun q => ?_) (fun q => hz)
    have e : En v o g k = 0 := by unfold En; omega
    rw [e] at hz
    exact hz
  · have hs := pk_sneg (a := Wo v o g (k + 1)) (b := Wo v o g (g + 1)) (by omega) (by omega)
    have hle : nI (Wo v o g (k + 1)) - nI (Wo v o g (g + 1)) ≤ 0 := Int32.le_of_lt hs
    refine ⟨fun _ => ?_, fun q => absurd hle q⟩
    have e : En v o g k = 0 := by unfold En; omega
    rw [e] at hz
    exact hz
theorem w7_onTable {R : Nat → Int32} {o : Nat → Nat} {n : Nat} {Z : Int32 → Prop} (hn : n ≤ 4) (ho : okO n o) (hO : mO o R) (hz : Z (nI (sg (cn o 0) 0 24))) : Wp_X7_onTable R Z := by
  have key : ∀ d c s, c + d = 24 → Z (nI (s + sg (cn o 0) c d)) → Wp_X7_onTable_4 R Z (nI s) (nI c) := by
    intro d
    induction d with
    | zero =>
      intro c s hcd hz
      refine F_X7_onTable_4 _ _ _ _ ?_
      exact pk_le 24 c (fun _ => hz) (fun q => absurd q (by omega))
    | succ d ih =>
      intro c s hcd hz
      refine F_X7_onTable_4 _ _ _ _ ?_
      have hc : c < 24 := by omega
      have hoc := ho c hc
      refine pk_le 24 c (fun q => absurd q (by omega)) (fun _ => ?_)
      rw [ix_o, q_cl (1 + c) (by omega), hO c hc]
      refine ⟨q_in (by omega), ?_⟩
      refine pm_ne (o c) 0 (fun e => ?_) (fun e => ?_)
      · show Wp_X7_onTable_4 R Z (nI s + nI 0) (nI c + 1)
        rw [nI_add, nI_1]
        refine ih (c + 1) (s + 0) (by omega) ?_
        have e2 : sg (cn o 0) c (d + 1) = 0 + sg (cn o 0) (c + 1) d := by
          show cn o 0 c + _ = _
          rw [show cn o 0 c = 0 from if_neg e]
        rw [e2, ← Nat.add_assoc] at hz
        exact hz
      · rw [nI_1, nI_1]
        refine ih (c + 1) (s + 1) (by omega) ?_
        have e2 : sg (cn o 0) c (d + 1) = 1 + sg (cn o 0) (c + 1) d := by
          show cn o 0 c + _ = _
          rw [show cn o 0 c = 1 from if_pos e]
        rw [e2, ← Nat.add_assoc] at hz
        exact hz
  refine key 24 0 0 (by omega) ?_
  rw [Nat.zero_add]
  exact hz
theorem En_self (v : Nat → Nat → Nat) (o : Nat → Nat) (g : Nat) : En v o g g = 0 := Nat.sub_self _
theorem w7_envies {R : Nat → Int32} {v : Nat → Nat → Nat} {o : Nat → Nat} {n : Nat} {b : Bool} {Z : Int32 → Prop} (hn : n ≤ 4) (ho : okO n o) (hv : okV v) (hR : R 0 = nI n) (hO : mO o R) (hV : mV v R) (hz : Z (nI (if b then ae v o n else ar v o n))) : Wp_X7_envies R (bI b) Z := by
  obtain ⟨f, hf⟩ : ∃ f : Nat → Nat → Nat, f = fun g => if b then En v o g else ar1 v o g := ⟨_, rfl⟩
  have ef0 : (if b = true then ae v o n else ar v o n) = sg (fun g => sg (f g) 0 n) 0 n := by
    subst hf
    cases b
    · simp only [Bool.false_eq_true, if_false, ar]
    · simp only [if_true, ae]
  rw [ef0] at hz
  have e0 : R (0 : Int32).toNatClampNeg = nI n := hR
  have inner : ∀ d g k s, k + d = n → g < n → (Wp_X7_envies_4 R (bI b) Z (nI (s + sg (f g) k d)) (nI (g + 1))) → Wp_X7_envies_17 R (bI b) Z (nI s) (nI g) (nI k) := by
    intro d
    induction d with
    | zero =>
      intro g k s hkd hg hnext
      refine F_X7_envies_17 _ _ _ _ _ _ ⟨q_in (k := 0) (by omega), ?_⟩
      rw [e0]
      refine pk_le n k (fun _ => ?_) (fun q => absurd q (by omega))
      rw [nI_1]
      exact hnext
    | succ d ih =>
      intro g k s hkd hg hnext
      refine F_X7_envies_17 _ _ _ _ _ _ ⟨q_in (k := 0) (by omega), ?_⟩
      rw [e0]
      have b1 := En_le (o := o) (k := k) hv (show g < 4 by omega)
      have go : ∀ J4 : Int32 → Int32 → Prop, K_X7_envies_45 R (bI b) Z J4 (Wp_X7_envies_17 R (bI b) Z) (nI s) (nI g) (nI k) (nI (En v o g k)) := fun J4 => by
        have e2 : sg (f g) k (d + 1) = f g k + sg (f g) (k + 1) d := rfl
        rw [e2, ← Nat.add_assoc] at hnext
        refine pb_eq (fun hb => ?_) (fun hb => ?_)
        · subst hb
          have ef : f g k = ar1 v o g k := by rw [hf]; simp only [Bool.false_eq_true, if_false]
          refine pk_le (En v o g k) 0 (fun q => ?_) (fun q => ?_)
          · show Wp_X7_envies_17 R (bI false) Z (nI s + nI 0) (nI g) (nI k + 1)
            rw [nI_add, nI_1]
            refine ih g (k + 1) (s + 0) (by omega) hg ?_
            rw [show f g k = 0 by rw [ef]; exact if_pos (by omega)] at hnext
            exact hnext
          · rw [nI_1, nI_1]
            refine ih g (k + 1) (s + 1) (by omega) hg ?_
            rw [show f g k = 1 by rw [ef]; exact if_neg (by omega)] at hnext
            exact hnext
        · subst hb
          have ef : f g k = En v o g k := by rw [hf]; simp only [if_true]
          rw [ef] at hnext
          rw [nI_add, nI_1]
          exact ih g (k + 1) (s + En v o g k) (by omega) hg hnext
      refine pk_le n k (fun q => absurd q (by omega)) (fun _ => ?_)
      refine pq_ne g k (fun q => ?_) (fun q => ?_)
      · exact w7_envyOf hn ho hv (by omega) (by omega) hO hV (go _)
      · have h := go (Wp_X7_envies_4 R (bI b) Z)
        rw [show En v o g k = 0 by rw [q]; exact En_self v o k] at h
        exact h
  have outer : ∀ d g s, g + d = n → Z (nI (s + sg (fun g => sg (f g) 0 n) g d)) → Wp_X7_envies_4 R (bI b) Z (nI s) (nI g) := by
    intro d
    induction d with
    | zero =>
      intro g s hgd hz
      refine F_X7_envies_4 _ _ _ _ _ ⟨q_in (k := 0) (by omega), ?_⟩
      rw [e0]
      exact pk_le n g (fun _ => hz) (fun q => absurd q (by omega))
    | succ d ih =>
      intro g s hgd hz
      refine F_X7_envies_4 _ _ _ _ _ ⟨q_in (k := 0) (by omega), ?_⟩
      rw [e0]
      refine pk_le n g (fun q => absurd q (by omega)) (fun _ => ?_)
      refine inner n g 0 s (by omega) (by omega) ?_
      refine ih (g + 1) _ (by omega) ?_
      rw [Nat.add_assoc]
      exact hz
  refine outer n 0 0 (by omega) ?_
  rw [Nat.zero_add]
  exact hz
theorem w7_served {R : Nat → Int32} {v : Nat → Nat → Nat} {o : Nat → Nat} {n : Nat} {Z : Int32 → Prop} (hn : n ≤ 4) (ho : okO n o) (hv : okV v) (hR : R 0 = nI n) (hO : mO o R) (hV : mV v R) (hz : Z (nI (sg (ct1 v o n) 0 n))) : Wp_X7_served R Z := by
  have e0 : R (0 : Int32).toNatClampNeg = nI n := hR
  have key : ∀ d g s, g + d = n → Z (nI (s + sg (ct1 v o n) g d)) → Wp_X7_served_4 R Z (nI s) (nI g) := by
    intro d
    induction d with
    | zero =>
      intro g s hgd hz
      refine F_X7_served_4 _ _ _ _ ⟨q_in (k := 0) (by omega), ?_⟩
      rw [e0]
      exact pk_le n g (fun _ => hz) (fun q => absurd q (by omega))
    | succ d ih =>
      intro g s hgd hz
      refine F_X7_served_4 _ _ _ _ ⟨q_in (k := 0) (by omega), ?_⟩
      rw [e0]
      have hg : g < 4 := by omega
      have no : ct1 v o n g = 0 → Wp_X7_served_4 R Z (nI s + (0 : Int32)) (nI g + 1) := fun e => by
        show Wp_X7_served_4 R Z (nI s + nI 0) (nI g + 1)
        rw [nI_add, nI_1]
        refine ih (g + 1) (s + 0) (by omega) ?_
        have e2 : sg (ct1 v o n) g (d + 1) = 0 + sg (ct1 v o n) (g + 1) d := by
          show ct1 v o n g + _ = _
          rw [e]
        rw [e2, ← Nat.add_assoc] at hz
        exact hz
      refine pk_le n g (fun q => absurd q (by omega)) (fun _ => ?_)
      refine w7_total hg hV ?_
      have b1 := To_le hv hg
      have b2 := Wo_le (o := o) (h := g + 1) hv hg
      refine pk_le (To v g) 0 (fun q => no (if_pos (Or.inl (by omega)))) (fun q => ?_)
      refine w7_pieceValue (h := g + 1) hn ho hg (by omega) hO hV ?_
      refine w7_total hg hV ?_
      rw [pk_mul, Nat.mul_comm]
      have b3 : Wo v o g (g + 1) * n ≤ 216 * 4 := Nat.mul_le_mul b2 hn
      refine pk_lt (Wo v o g (g + 1) * n) (To v g) (fun q => no (if_pos (Or.inr q))) (fun q2 => ?_)
      rw [nI_1, nI_1]
      refine ih (g + 1) (s + 1) (by omega) ?_
      have e2 : sg (ct1 v o n) g (d + 1) = 1 + sg (ct1 v o n) (g + 1) d := by
        show ct1 v o n g + _ = _
        rw [show ct1 v o n g = 1 from if_neg (by omega)]
      rw [e2, ← Nat.add_assoc] at hz
      exact hz
  refine key n 0 0 (by omega) ?_
  rw [Nat.zero_add]
  exact hz
theorem w7_crumbsOf {R : Nat → Int32} {o : Nat → Nat} {n h : Nat} {b : Bool} {Z : Int32 → Prop} (hn : n ≤ 4) (ho : okO n o) (hh : h ≤ 4) (hO : mO o R) (hz : Z (nI (if b then sg (sp o h) 0 24 else sg (cn o h) 0 24))) : Wp_X7_crumbsOf R (oM h) (bI b) Z := by
  obtain ⟨f, hf⟩ : ∃ f : Nat → Nat, f = if b then sp o h else cn o h := ⟨_, rfl⟩
  have hz : Z (nI (sg f 0 24)) := by
    subst hf
    cases b
    · exact hz
    · exact hz
  have key : ∀ d c s, c + d = 24 → Z (nI (s + sg f c d)) → Wp_X7_crumbsOf_5 R (oM h) (bI b) Z (nI s) (nI c) := by
    intro d
    induction d with
    | zero =>
      intro c s hcd hz
      refine F_X7_crumbsOf_5 _ _ _ _ _ _ ?_
      exact pk_le 24 c (fun _ => hz) (fun q => absurd q (by omega))
    | succ d ih =>
      intro c s hcd hz
      refine F_X7_crumbsOf_5 _ _ _ _ _ _ ?_
      have hc : c < 24 := by omega
      have hoc := ho c hc
      have go : ∀ x : Nat, f c = x → Wp_X7_crumbsOf_5 R (oM h) (bI b) Z (nI s + nI x) (nI c + 1) := fun x e => by
        rw [nI_add, nI_1]
        refine ih (c + 1) (s + x) (by omega) ?_
        have e2 : sg f c (d + 1) = x + sg f (c + 1) d := by
          show f c + _ = _
          rw [e]
        rw [e2, ← Nat.add_assoc] at hz
        exact hz
      have k37 : ∀ q : Bool, (q = true ↔ (c = 0 ∨ o (c - 1) ≠ h)) → K_X7_crumbsOf_37 R (oM h) (bI b) Z (Wp_X7_crumbsOf_5 R (oM h) (bI b) Z) (nI s) (nI c) (bI q) := fun q hq => by
        unfold K_X7_crumbsOf_37
        rw [ix_o, q_cl (1 + c) (by omega), hO c hc]
        refine ⟨q_in (by omega), ?_⟩
        refine pm_ne (o c) h (fun e => go 0 ?_) (fun e => ?_)
        · rw [hf]
          cases b
          · exact if_neg e
          · exact if_neg (fun z => e z.1)
        · refine pb_eq (fun hb => go 1 ?_) (fun hb => ?_)
          · rw [hf, hb]; exact if_pos e
          · refine pb_eq (fun hq2 => go 0 ?_) (fun hq2 => go 1 ?_)
            · rw [hf, hb]
              refine if_neg (fun z => ?_)
              have := hq.mpr z.2
              rw [hq2] at this
              cases this
            · rw [hf, hb]; exact if_pos ⟨e, hq.mp hq2⟩
      refine pk_le 24 c (fun q => absurd q (by omega)) (fun _ => ?_)
      refine pk_eq c 0 (fun e => k37 true ⟨fun _ => Or.inl e, fun _ => rfl⟩) (fun e => ?_)
      obtain ⟨k, rfl⟩ : ∃ k, c = k + 1 := ⟨c - 1, by omega⟩
      have e3 : (1 : Int32) + nI (k + 1) - 1 = nI (1 + k) := by
        rw [ix_o, show 1 + (k + 1) = (1 + k) + 1 by omega, nI_pred]
      rw [e3, q_cl (1 + k) (by omega), hO k (by omega)]
      have hok := ho k (by omega)
      refine ⟨q_in (by omega), ?_⟩
      refine pm_eq (o k) h (fun e1 => k37 false ⟨fun q => (by cases q), fun q => q.elim (fun z => absurd z e) (fun z => absurd e1 z)⟩) (fun e1 => k37 true ⟨fun _ => Or.inr e1, fun _ => rfl⟩)
  refine key 24 0 0 (by omega) ?_
  rw [Nat.zero_add]
  exact hz
theorem q_absM (l r : Nat) (hl : l < 2 ^ 20) (hr : r < 2 ^ 20) {A : Int32 → Prop} (hz : A (nI (df l r))) : ((0 : Int32) ≤ nI l - nI r → A (nI l - nI r)) ∧ (¬ (0 : Int32) ≤ nI l - nI r → A (-(nI l - nI r))) := by
  unfold df at hz
  by_cases h : r ≤ l
  · rw [pk_sub h]
    refine pk_le 0 (l - r) (fun _ => ?_) (fun q => absurd q (by omega))
    rw [show l - r + (r - l) = l - r by omega] at hz
    exact hz
  · have hs := pk_sneg (a := l) (b := r) (by omega) (by omega)
    refine ⟨fun q => ?_, fun _ => ?_⟩
    · have q1 := Int32.le_iff_toInt_le.mp q
      have q2 := Int32.lt_iff_toInt_lt.mp hs
      omega
    · rw [Int32.neg_sub, pk_sub (by omega)]
      rw [show l - r + (r - l) = r - l by omega] at hz
      exact hz
theorem w7_cutAt {R : Nat → Int32} {v : Nat → Nat → Nat} {g a b : Nat} {Z : Int32 → Prop} (hg : g < 4) (hb : b < 24) (hv : okV v) (hV : mV v R) (hab : a < b) (hz : Z (nI (cutOf (v g) a b))) : Wp_X7_cutAt R (nI g) (nI a) (nI b) Z := by
  obtain ⟨e, he⟩ : ∃ e, e = b + 1 - a := ⟨_, rfl⟩
  have hcut : cutOf (v g) a b = fc (v g) a e (b - a - 1) (a + 2) (a + 1) (cd (v g) a e (a + 1)) := by unfold cutOf; rw [he]
  have hbd : ∀ c, a ≤ c → c ≤ b + 1 → sg (v g) a (c - a) ≤ 216 ∧ sg (v g) c (a + e - c) ≤ 216 := fun c h1 h2 => ⟨sgv_le hv hg (by omega), sgv_le hv hg (by omega)⟩
  have step : ∀ (c : Nat) (x4 x5 : Int32) (J : Int32 → Int32 → Int32 → Prop), a < c → c ≤ b → K_X7_cutAt_52 R (nI g) (nI a) (nI b) Z J x4 x5 (nI c) (nI (cd (v g) a e c)) → B_X7_cutAt_12 R (nI g) (nI a) (nI b) Z J x4 x5 (nI c) := by
    intro c x4 x5 J h1 h2 hJ
    refine pk_lt b c (fun q => absurd q (by omega)) (fun _ => ?_)
    refine w7_spanValue hg (by omega) hV (by omega) ?_
    have e1 : nI b + 1 = nI (b + 1) := nI_1 b
    show Wp_X7_spanValue R (nI g) (nI c) (nI b + 1) _
    rw [e1]
    refine w7_spanValue hg (by omega) hV (by omega) ?_
    rw [show b + 1 - c = a + e - c by omega]
    have := hbd c (by omega) (by omega)
    exact q_absM _ _ (by omega) (by omega) hJ
  have hcd : ∀ c, a ≤ c → c ≤ b + 1 → cd (v g) a e c ≤ 216 := fun c h1 h2 => by
    have := hbd c h1 h2
    unfold cd df
    omega
  have key : ∀ d c p m, c + d = b + 1 → a < p → p < c → m < 2 ^ 20 → Z (nI (fc (v g) a e d c p m)) → Wp_X7_cutAt_12 R (nI g) (nI a) (nI b) Z (nI p) (nI m) (nI c) := by
    intro d
    induction d with
    | zero =>
      intro c p m hcd' hap hpc hm hz
      refine F_X7_cutAt_12 _ _ _ _ _ _ _ _ ?_
      exact pk_lt b c (fun _ => hz) (fun q => absurd q (by omega))
    | succ d ih =>
      intro c p m hcd' hap hpc hm hz
      refine F_X7_cutAt_12 _ _ _ _ _ _ _ _ ?_
      refine step c _ _ _ (by omega) (by omega) ?_
      have hb2 := hcd c (by omega) (by omega)
      refine ⟨fun q => ?_, fun _ => ?_⟩
      · have q2 : (nI p).toInt = -9 := by rw [q]; decide
        rw [nI_toInt (by omega)] at q2
        omega
      · refine pk_le m (cd (v g) a e c) (fun q => ?_) (fun q => ?_)
        · unfold fc at hz
          rw [if_neg (by omega)] at hz
          refine pq_ne p c (fun _ => ?_) (fun q => absurd q (by omega))
          rw [nI_1]
          exact ih (c + 1) p m (by omega) hap (by omega) hm hz
        · unfold fc at hz
          rw [if_pos q] at hz
          refine pq_ne c c (fun q => absurd rfl q) (fun _ => ?_)
          rw [nI_1]
          exact ih (c + 1) c _ (by omega) (by omega) (by omega) (by omega) hz
  have e1 : nI a + 1 = nI (a + 1) := nI_1 a
  show Wp_X7_cutAt_12 R (nI g) (nI a) (nI b) Z (-9) 0 (nI a + 1)
  rw [e1]
  refine F_X7_cutAt_12 _ _ _ _ _ _ _ _ ?_
  refine step (a + 1) _ _ _ (by omega) (by omega) ?_
  have hb2 := hcd (a + 1) (by omega) (by omega)
  refine ⟨fun _ => ?_, fun q => absurd rfl q⟩
  refine pq_ne (a + 1) (a + 1) (fun q => absurd rfl q) (fun _ => ?_)
  rw [nI_1]
  refine key (b - a - 1) (a + 2) (a + 1) _ (by omega) (by omega) (by omega) (by omega) ?_
  rw [← hcut]; exact hz
