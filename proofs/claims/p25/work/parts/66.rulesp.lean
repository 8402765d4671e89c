/-! the law's rules hold of every state -/
section RULES
variable {n k g : Nat} {o : Nat → Nat} {v : Nat → Nat → Nat} {h : Nat → CA} {Z : Int32 → Prop}
theorem r_370 {J23 : Int32 → Int32 → Int32 → Int32 → Int32 → Int32 → Prop} {J41 : Int32 → Int32 → Int32 → Int32 → Int32 → Int32 → Int32 → Int32 → Int32 → Int32 → Prop} {J275 : Int32 → Int32 → Int32 → Int32 → Int32 → Int32 → Int32 → Int32 → Int32 → Int32 → Int32 → Int32 → Prop} {J309 : Int32 → Int32 → Int32 → Int32 → Int32 → Int32 → Int32 → Int32 → Int32 → Int32 → Prop} {σ : Sg} {x1 x2 x5 x6 x7 x8 x10 x14 : Int32} {Ar Ev e j : Nat} (hx : (x14 ≤ 0 ∧ e = 0) ∨ (x14 = nI e ∧ 0 < e ∧ e < 2 ^ 30)) (hJ : J309 x1 x2 (nI (Ar + if e = 0 then 0 else 1)) (nI (Ev + e)) x5 x6 x7 x8 x10 (nI (j + 1))) : K_L_rules_370 σ Z J23 J41 J275 J309 x1 x2 (nI Ar) (nI Ev) x5 x6 x7 x8 x10 (nI j) x14 := by
  rcases hx with ⟨h1, h2⟩ | ⟨h1, h2, h3⟩
  · subst h2
    rw [if_pos rfl, Nat.add_zero, Nat.add_zero] at hJ
    refine ⟨fun _ => ⟨fun _ => ?_, fun q => absurd h1 q⟩, fun q => absurd h1 q⟩
    rw [Int32.add_zero, Int32.add_zero, nI_1]
    exact hJ
  · have h0 : ¬ x14 ≤ 0 := by rw [h1]; exact nI_nle h2 (by omega)
    rw [if_neg (by omega)] at hJ
    refine ⟨fun q => absurd q h0, fun _ => ⟨fun q => absurd q h0, fun _ => ?_⟩⟩
    rw [h1, nI_1, nI_add, nI_1]
    exact hJ
theorem r_309 {C S many : Nat} (hA : okA (n, o, v)) (hg : g < n) {Ar Ev : Nat} (hnext : Wp_L_rules_23 ((n, o, v), k, h) Z (nI n) (nI (C + many)) (nI (Ar + sg (ar1 v o g) 0 n)) (nI (Ev + sg (En v o g) 0 n)) (nI (S + ct1 v o n g)) (nI (g + 1))) : ∀ d j, j + d = n → Wp_L_rules_309 ((n, o, v), k, h) Z (nI n) (nI C) (nI (Ar + sg (ar1 v o g) 0 j)) (nI (Ev + sg (En v o g) 0 j)) (nI S) (nI g) (nI (To v g)) (nI many) (nI (Wo v o g (g + 1))) (nI j) := by
  obtain ⟨hn, ho', hv⟩ := id hA
  have hn : n ≤ 4 := hn
  have ho' : okO n o := ho'
  have hv : okV v := hv
  have hT := To_le hv (show g < 4 by omega)
  have hW := Wo_le (o := o) (h := g + 1) hv (show g < 4 by omega)
  intro d
  induction d with
  | zero =>
    intro j hj
    have e : j = n := by omega
    subst e
    refine F_L_rules_309 _ _ _ _ _ _ _ _ _ _ _ _ ?_
    have no : ct1 v o j g = 0 → Wp_L_rules_23 ((j, o, v), k, h) Z (nI j) (nI C + nI many) (nI (Ar + sg (ar1 v o g) 0 j)) (nI (Ev + sg (En v o g) 0 j)) (nI S + 0) (nI g + 1) := fun e => by
      rw [e, Nat.add_zero] at hnext
      rw [nI_add, nI_1, Int32.add_zero]
      exact hnext
    refine pk_le j j (fun _ => ?_) (fun q => absurd q (by omega))
    refine pk_le (To v g) 0 (fun q => no (if_pos (Or.inl (by omega)))) (fun q => ?_)
    have b3 : Wo v o g (g + 1) * j ≤ 216 * 4 := Nat.mul_le_mul hW hn
    refine pk_lt (Wo v o g (g + 1) * j) (To v g) (fun q => no (if_pos (Or.inr q))) (fun q2 => ?_) (pk_mul _ _)
    have e1 : ct1 v o j g = 1 := if_neg (by omega)
    rw [e1] at hnext
    rw [nI_add, nI_1, nI_1]
    exact hnext
  | succ d ih =>
    intro j hj
    refine F_L_rules_309 _ _ _ _ _ _ _ _ _ _ _ _ ?_
    have hWj := Wo_le (o := o) (h := j + 1) hv (show g < 4 by omega)
    have ih := ih (j + 1) (by omega)
    have s1 := sg_last (ar1 v o g) 0 j
    have s2 := sg_last (En v o g) 0 j
    rw [Nat.zero_add] at s1 s2
    rw [s1, s2] at ih
    have e0 : ar1 v o g j = if En v o g j = 0 then 0 else 1 := rfl
    rw [e0, ← Nat.add_assoc, ← Nat.add_assoc] at ih
    refine pk_le n j (fun q => absurd q (by omega)) (fun _ => ?_)
    refine pq_ne g j (fun hgj => ?_) (fun hgj => ?_)
    · refine w_Lworth (y := j + 1) hA hg (by omega) ?_
      by_cases q : Wo v o g (j + 1) ≤ Wo v o g (g + 1)
      · have eE : En v o g j = 0 := by unfold En; omega
        have hle : nI (Wo v o g (j + 1)) - nI (Wo v o g (g + 1)) ≤ 0 := by
          by_cases q2 : Wo v o g (j + 1) = Wo v o g (g + 1)
          · rw [q2, pk_sub (Nat.le_refl _), Nat.sub_self]
            exact Int32.le_refl 0
          · exact Int32.le_of_lt (pk_sneg (by omega) (by omega))
        refine pk_eq g j (fun q => absurd q hgj) (fun _ => q_envy hg (by omega) hgj ?_)
        refine ⟨fun _ => ?_, fun q => absurd hle q⟩
        refine pk_eq (En v o g j) 0 (fun _ => ?_) (fun q => absurd eE q) rfl rfl (by omega)
        exact r_370 (Or.inl ⟨hle, eE⟩) ih
      · have eE : nI (Wo v o g (j + 1)) - nI (Wo v o g (g + 1)) = nI (En v o g j) := pk_sub (by omega)
        have hp : 0 < En v o g j := by unfold En; omega
        have hb : En v o g j ≤ 216 := En_le hv (by omega)
        rw [eE]
        refine pk_eq g j (fun q => absurd q hgj) (fun _ => q_envy hg (by omega) hgj ?_)
        refine pk_le (En v o g j) 0 (fun q => absurd q (by omega)) (fun _ => ?_)
        refine ⟨fun _ => ?_, fun q => absurd rfl q⟩
        exact r_370 (Or.inr ⟨rfl, hp, by omega⟩) ih
    · subst hgj
      refine pk_eq g g (fun _ => ?_) (fun q => absurd rfl q)
      refine r_370 (Or.inl ⟨by decide, En_self⟩) ih
theorem r_275 {C S many : Nat} {x3 x4 : Int32} (hA : okA (n, o, v)) (hg : g < n) (hnext : Wp_L_rules_309 ((n, o, v), k, h) Z (nI n) (nI C) x3 x4 (nI S) (nI g) (nI (To v g)) (nI many) (nI (Wo v o g (g + 1))) 0) : ∀ e d, 2 ≤ d → Wo v o g (g + 1) / Nat.gcd (Wo v o g (g + 1)) (To v g) < d + e → d + e ≤ 1000 → Wp_L_rules_275 ((n, o, v), k, h) Z (nI n) (nI C) x3 x4 (nI S) (nI g) (nI (To v g)) (nI many) (nI (Wo v o g (g + 1))) (nI (Wo v o g (g + 1) / Nat.gcd (Wo v o g (g + 1)) (To v g))) (nI (lden (Wo v o g (g + 1)) (To v g))) (nI d) := by
  obtain ⟨hn, ho', hv⟩ := id hA
  have hn : n ≤ 4 := hn
  have hv : okV v := hv
  have hT := To_le hv (show g < 4 by omega)
  have hWT := Wo_To (v := v) (o := o) (g := g) (h := g + 1)
  obtain ⟨l1, l2⟩ := low_le hT hWT
  intro e
  induction e with
  | zero =>
    intro d h2 hd _
    refine F_L_rules_275 _ _ _ _ _ _ _ _ _ _ _ _ _ _ ?_
    exact pk_lt (Wo v o g (g + 1) / Nat.gcd (Wo v o g (g + 1)) (To v g)) d (fun _ => hnext) (fun q => absurd q (by omega))
  | succ e ih =>
    intro d h2 hd hd2
    refine F_L_rules_275 _ _ _ _ _ _ _ _ _ _ _ _ _ _ ?_
    refine pk_lt (Wo v o g (g + 1) / Nat.gcd (Wo v o g (g + 1)) (To v g)) d (fun _ => hnext) (fun q => ⟨nI_ne0 (by omega) (by omega), ?_⟩)
    have e1 : nI d + 1 = nI (d + 1) := nI_1 d
    rw [pk_rem (by omega) (by omega) (by omega), pk_rem (by omega) (by omega) (by omega), e1]
    have m1 := Nat.mod_lt (Wo v o g (g + 1) / Nat.gcd (Wo v o g (g + 1)) (To v g)) (show d > 0 by omega)
    have m2 := Nat.mod_lt (lden (Wo v o g (g + 1)) (To v g)) (show d > 0 by omega)
    refine pq_ne ((Wo v o g (g + 1) / Nat.gcd (Wo v o g (g + 1)) (To v g)) % d) 0 (fun _ => ih (d + 1) (by omega) (by omega) (by omega)) (fun q1 => ?_)
    refine pq_ne (lden (Wo v o g (g + 1)) (To v g) % d) 0 (fun _ => ih (d + 1) (by omega) (by omega) (by omega)) (fun q2 => ?_)
    exact absurd (low_co hWT h2 q1 q2) id
theorem r_41 {C S : Nat} {x3 x4 : Int32} (hA : okA (n, o, v)) (hg : g < n) (hnext : Wp_L_rules_309 ((n, o, v), k, h) Z (nI n) (nI C) x3 x4 (nI S) (nI g) (nI (To v g)) (nI (sg (cn o (g + 1)) 0 24)) (nI (Wo v o g (g + 1))) 0) : ∀ d c, c + d = 24 → Wp_L_rules_41 ((n, o, v), k, h) Z (nI n) (nI C) x3 x4 (nI S) (nI g) (nI (sg (v g) 0 c)) (nI (sg (cn o (g + 1)) 0 c)) (nI (sg (sp o (g + 1)) 0 c)) (nI c) := by
  obtain ⟨hn, ho', hv⟩ := id hA
  have hn : n ≤ 4 := hn
  have ho' : okO n o := ho'
  have hv : okV v := hv
  have hT := To_le hv (show g < 4 by omega)
  have hWT := Wo_To (v := v) (o := o) (g := g) (h := g + 1)
  obtain ⟨l1, l2⟩ := low_le hT hWT
  have l3 := low_pos (W := Wo v o g (g + 1)) (T := To v g)
  have l4 := low_up hWT
  intro d
  induction d with
  | zero =>
    intro c hc
    have e : c = 24 := by omega
    subst e
    refine F_L_rules_41 _ _ _ _ _ _ _ _ _ _ _ _ ?_
    refine pk_le 24 24 (fun _ => ?_) (fun q => absurd q (by omega))
    refine w_Lworth (y := g + 1) hA hg (by omega) ?_
    refine q_guest0 hg ⟨fun q => absurd rfl q, fun _ => ?_⟩
    refine q_guest1 hg ⟨fun q => absurd rfl q, fun _ => ?_⟩
    refine q_guest2 hg ⟨fun q => absurd rfl q, fun _ => ?_⟩
    refine q_guest5 hg ⟨fun q => absurd rfl q, fun _ => ?_⟩
    refine q_guest6 hg ?_
    refine w_Lworth (y := 0) hA hg (by omega) ⟨fun _ => ?_, fun q => absurd rfl q⟩
    refine q_guest3 hg ?_
    refine q_guest4 hg ?_
    have go : Wp_L_rules_275 ((n, o, v), k, h) Z (nI n) (nI C) x3 x4 (nI S) (nI g) (nI (To v g)) (nI (sg (cn o (g + 1)) 0 24)) (nI (Wo v o g (g + 1))) (nI (Wo v o g (g + 1) / Nat.gcd (Wo v o g (g + 1)) (To v g))) (nI (lden (Wo v o g (g + 1)) (To v g))) 2 := r_275 hA hg hnext 300 2 (by omega) (by omega) (by omega)
    have then' : K_L_rules_259 ((n, o, v), k, h) Z (Wp_L_rules_23 ((n, o, v), k, h) Z) (Wp_L_rules_41 ((n, o, v), k, h) Z) (Wp_L_rules_275 ((n, o, v), k, h) Z) (Wp_L_rules_309 ((n, o, v), k, h) Z) (nI n) (nI C) x3 x4 (nI S) (nI g) (nI (To v g)) (nI (sg (cn o (g + 1)) 0 24)) (nI (Wo v o g (g + 1))) (nI (Wo v o g (g + 1) / Nat.gcd (Wo v o g (g + 1)) (To v g))) (nI (lden (Wo v o g (g + 1)) (To v g))) := by
      refine pq_ne (To v g) 0 (fun _ => go) (fun q => ?_)
      refine pk_eq (lden (Wo v o g (g + 1)) (To v g)) 1 (fun _ => go) (fun q2 => absurd ?_ q2)
      unfold lden
      rw [if_pos q]
    refine pk_lt (lden (Wo v o g (g + 1)) (To v g)) 1 (fun q => absurd q (by omega)) (fun _ => ?_)
    have em : nI (Wo v o g (g + 1) / Nat.gcd (Wo v o g (g + 1)) (To v g)) * nI (To v g) = nI (Wo v o g (g + 1)) * nI (lden (Wo v o g (g + 1)) (To v g)) := by rw [pk_mul, pk_mul, l4]
    refine ⟨fun q => absurd em q, fun _ => ?_⟩
    refine pq_ne (Wo v o g (g + 1)) 0 (fun _ => then') (fun q => ?_)
    have lz := low_zero (T := To v g)
    refine pq_ne (Wo v o g (g + 1) / Nat.gcd (Wo v o g (g + 1)) (To v g)) 0 (fun q2 => absurd (by rw [q]; exact lz.1) q2) (fun _ => ?_)
    exact pq_ne (lden (Wo v o g (g + 1)) (To v g)) 1 (fun q2 => absurd (by rw [q]; exact lz.2) q2) (fun _ => then')
  | succ d ih =>
    intro c hcd
    refine F_L_rules_41 _ _ _ _ _ _ _ _ _ _ _ _ ?_
    have hc : c < 24 := by omega
    have hoc := ho' c hc
    have ih := ih (c + 1) (by omega)
    have s1 := sg_last (v g) 0 c
    have s2 := sg_last (cn o (g + 1)) 0 c
    have s3 := sg_last (sp o (g + 1)) 0 c
    rw [Nat.zero_add] at s1 s2 s3
    rw [s1, s2, s3] at ih
    refine pk_le 24 c (fun q => absurd q (by omega)) (fun _ => q_value hg hc (q_crumb hc ?_))
    have two : ∀ t : Nat, cn o (g + 1) c = t → K_L_rules_79 ((n, o, v), k, h) Z (Wp_L_rules_23 ((n, o, v), k, h) Z) (Wp_L_rules_41 ((n, o, v), k, h) Z) (Wp_L_rules_275 ((n, o, v), k, h) Z) (Wp_L_rules_309 ((n, o, v), k, h) Z) (nI n) (nI C) x3 x4 (nI S) (nI g) (nI (sg (v g) 0 c) + nI (v g c)) (nI (sg (sp o (g + 1)) 0 c)) (nI c) (nI t) (nI (sg (cn o (g + 1)) 0 c)) := fun t ht => by
      rw [ht] at ih
      have e9 : nI c + 1 = nI (c + 1) := nI_1 c
      have no : sp o (g + 1) c = 0 → Wp_L_rules_41 ((n, o, v), k, h) Z (nI n) (nI C) x3 x4 (nI S) (nI g) (nI (sg (v g) 0 c) + nI (v g c)) (nI (sg (cn o (g + 1)) 0 c) + nI t) (nI (sg (sp o (g + 1)) 0 c) + 0) (nI c + 1) := fun e => by
        rw [e, Nat.add_zero] at ih
        rw [nI_add, nI_add, Int32.add_zero, e9]
        exact ih
      have yes : sp o (g + 1) c = 1 → Wp_L_rules_41 ((n, o, v), k, h) Z (nI n) (nI C) x3 x4 (nI S) (nI g) (nI (sg (v g) 0 c) + nI (v g c)) (nI (sg (cn o (g + 1)) 0 c) + nI t) (nI (sg (sp o (g + 1)) 0 c) + 1) (nI c + 1) := fun e => by
        rw [e] at ih
        rw [nI_add, nI_add, nI_1, e9]
        exact ih
      refine q_crumb hc ?_
      refine pm_ne (o c) (g + 1) (fun q => no (if_neg (fun z => q z.1))) (fun q => ?_)
      refine pk_eq c 0 (fun e0 => yes (if_pos ⟨q, Or.inl e0⟩)) (fun e0 => ?_)
      obtain ⟨i, rfl⟩ : ∃ i, c = i + 1 := ⟨c - 1, by omega⟩
      rw [nI_pred]
      have hoi := ho' i (by omega)
      refine q_crumb (by omega) ?_
      exact pm_eq (o i) (g + 1) (fun e1 => no (if_neg (fun z => z.2.elim (fun w => e0 w) (fun w => w e1)))) (fun e1 => yes (if_pos ⟨q, Or.inr e1⟩))
    exact pm_ne (o c) (g + 1) (fun q => two 0 (if_neg q)) (fun q => two 1 (if_pos q))
theorem w_Lrules (hA : okA (n, o, v)) (hz : Z 1) : Wp_L_rules ((n, o, v), k, h) Z := by
  obtain ⟨hn, ho', hv⟩ := id hA
  have hn : n ≤ 4 := hn
  have ho' : okO n o := ho'
  have hv : okV v := hv
  have har := ar_le (v := v) (o := o) hn
  refine q_count0 ?_
  refine q_count1 ?_
  have outer : ∀ d g, g + d = n → Wp_L_rules_23 ((n, o, v), k, h) Z (nI n) (nI (sg (fun i => sg (cn o i) 0 24) 0 (g + 1))) (nI (sg (fun i => sg (ar1 v o i) 0 n) 0 g)) (nI (sg (fun i => sg (En v o i) 0 n) 0 g)) (nI (sg (ct1 v o n) 0 g)) (nI g) := by
    intro d
    induction d with
    | zero =>
      intro g hg
      have e : g = n := by omega
      subst e
      refine F_L_rules_23 _ _ _ _ _ _ _ _ ?_
      rw [crumbs24 ho']
      refine pk_le g g (fun _ => ?_) (fun q => absurd q (by omega))
      refine ⟨fun q => absurd rfl q, fun _ => ?_⟩
      refine q_count2 ⟨fun q => absurd rfl q, fun _ => ?_⟩
      refine q_count3 ⟨fun q => absurd rfl q, fun _ => ?_⟩
      have last : ∀ t : Int32, K_L_rules_479 ((g, o, v), k, h) Z (Wp_L_rules_23 ((g, o, v), k, h) Z) (Wp_L_rules_41 ((g, o, v), k, h) Z) (Wp_L_rules_275 ((g, o, v), k, h) Z) (Wp_L_rules_309 ((g, o, v), k, h) Z) (nI (sg (ct1 v o g) 0 g)) t t := fun t => by
        refine ⟨fun q => absurd rfl q, fun _ => ?_⟩
        refine q_count5 ⟨fun q => absurd rfl q, fun _ => ?_⟩
        exact w_Lring hA ⟨fun q => absurd q (by decide), fun _ => hz⟩
      have ea : sg (fun i => sg (ar1 v o i) 0 g) 0 g = ar v o g := rfl
      rw [ea]
      refine q_count4 (fun q => ?_) (fun q => ?_)
      · exact pq_ne (ar v o g) 0 (fun q2 => absurd q q2) (fun _ => last 1)
      · exact pq_ne (ar v o g) 0 (fun _ => last 0) (fun q2 => absurd q2 q)
    | succ d ih =>
      intro g hg
      refine F_L_rules_23 _ _ _ _ _ _ _ _ ?_
      refine pk_le n g (fun q => absurd q (by omega)) (fun _ => ?_)
      have ih := ih (g + 1) (by omega)
      have s1 := sg_last (fun i => sg (cn o i) 0 24) 0 (g + 1)
      have s2 := sg_last (fun i => sg (ar1 v o i) 0 n) 0 g
      have s3 := sg_last (fun i => sg (En v o i) 0 n) 0 g
      have s4 := sg_last (ct1 v o n) 0 g
      rw [Nat.zero_add] at s1 s2 s3 s4
      rw [s1, s2, s3, s4] at ih
      have h309 := r_309 (k := k) (h := h) (Z := Z) hA (show g < n by omega) ih n 0 (by omega)
      have f1 : sg (ar1 v o g) 0 0 = 0 := rfl
      have f2 : sg (En v o g) 0 0 = 0 := rfl
      rw [f1, f2, Nat.add_zero, Nat.add_zero, nI_0] at h309
      have h41 := r_41 hA (show g < n by omega) h309 24 0 (by omega)
      have f3 : sg (v g) 0 0 = 0 := rfl
      have f4 : sg (cn o (g + 1)) 0 0 = 0 := rfl
      have f5 : sg (sp o (g + 1)) 0 0 = 0 := rfl
      rw [f3, f4, f5, nI_0] at h41
      exact h41
  have fin := outer n 0 (by omega)
  have e1 : sg (fun i => sg (cn o i) 0 24) 0 (0 + 1) = sg (cn o 0) 0 24 := by
    have z := sg_last (fun i => sg (cn o i) 0 24) 0 0
    rw [z]
    exact Nat.zero_add _
  have e2 : sg (fun i => sg (ar1 v o i) 0 n) 0 0 = 0 := rfl
  have e3 : sg (fun i => sg (En v o i) 0 n) 0 0 = 0 := rfl
  have e4 : sg (ct1 v o n) 0 0 = 0 := rfl
  rw [e1, e2, e3, e4, nI_0] at fin
  exact fin
end RULES
