/-! the law's cut, and all actions together -/
section ACTSQ
variable {n k g : Nat} {o : Nat → Nat} {v : Nat → Nat → Nat} {h : Nat → CA}
theorem a_528 {Z : Int32 → Sg → Prop} {a1 a2 : Int32} {J : Int32 → Int32 → Int32 → Int32 → Int32 → Int32 → Sg → Prop} {j a b : Nat} (hG : Gd ((n, o, v), k, h)) (hz : Done n o v k h Z) (hg : g < n) (hj : j < n) (hab : a ≤ b) (hb : b < 24) (hbad : g = j ∨ a = b) : K_L_acts_528 a1 a2 Z J (nI g) (nI j) (nI a) (nI b) ((n, o, v), k, h) :=
  q_cutBad hb hbad hg hj hab ⟨fun q => absurd rfl q, fun _ => hz _ (Af_same hG)⟩
/-- the loop that looks whether all of the span is free, and the cut behind it -/
theorem a_478 {Z : Int32 → Sg → Prop} {a1 a2 : Int32} {j a b : Nat} (hG : Gd ((n, o, v), k, h)) (hz : Done n o v k h Z) (hg : g < n) (hj : j < n) (hab : a ≤ b) (hb : b < 24) (hlt : a = 23 ∨ a < b) : ∀ d c (f : Bool), c + d = b + 1 → a ≤ c → (f = true ↔ a ≠ 23 ∧ ∀ i, a ≤ i → i < c → o i = 0) → Wp_L_acts_478 a1 a2 Z (nI g) (nI j) (nI a) (bI f) (nI b) (nI c) ((n, o, v), k, h) := by
  obtain ⟨⟨hn, ho', hv⟩, -, -⟩ := id hG
  have hn : n ≤ 4 := hn
  have ho' : okO n o := ho'
  have hv : okV v := hv
  intro d
  induction d with
  | zero =>
    intro c f hcd hac hf
    refine F_L_acts_478 _ _ _ _ _ _ _ _ _ _ ?_
    refine pk_lt b c (fun _ => ?_) (fun q => absurd q (by omega))
    refine pk_eq a 23 (fun q => a_528 hG hz hg hj hab hb (Or.inr (by omega))) (fun q => ?_)
    have hlt : a < b := by omega
    refine pq_ne g j (fun hgj => ?_) (fun hgj => a_528 hG hz hg hj hab hb (Or.inl hgj))
    by_cases hall : ∀ i, a ≤ i → i ≤ b → o i = 0
    · have ef : f = true := hf.mpr ⟨q, fun i i1 i2 => hall i i1 (by omega)⟩
      subst ef
      have hin := cutOf_in (f := v g) hlt
      refine q_cutFree hg hj hgj hlt hb hall (fun x y hx hy hxy => ?_)
      generalize cutOf (v g) a b = p at hin
      have ok1 : okO n (ho (x + 1) (p - a) a o 0).1 := ho_ok (by omega) _ _ _ _ ho'
      have ok2 : okO n (ho (y + 1) (b + 1 - p) p (ho (x + 1) (p - a) a o 0).1 0).1 := ho_ok (by omega) _ _ _ _ ok1
      have left : ∀ i, a ≤ i → i < p → (ho (y + 1) (b + 1 - p) p (ho (x + 1) (p - a) a o 0).1 0).1 i = x + 1 := fun i i1 i2 => by
        rw [ho_keep _ _ _ _ i (Or.inl i2)]
        exact ho_at (p - a) a o 0 i i1 (by omega) (hall i i1 (by omega))
      have right : ∀ i, p ≤ i → i ≤ b → (ho (y + 1) (b + 1 - p) p (ho (x + 1) (p - a) a o 0).1 0).1 i = y + 1 := fun i i1 i2 => by
        refine ho_at (b + 1 - p) p _ 0 i i1 (by omega) ?_
        rw [ho_keep _ _ _ _ i (Or.inr (by omega))]
        exact hall i (by omega) i2
      have fin := hz _ (Af_rec hG (Nat.le_refl n) ⟨hn, ok2, hv⟩)
      refine ⟨fun z => absurd z (by decide), fun _ => ?_⟩
      refine pk_le p a (fun z => absurd z (by omega)) (fun _ => ?_)
      refine pk_lt b p (fun z => absurd z (by omega)) (fun _ => ?_)
      refine q_crumb (by omega) ?_
      rw [left a (Nat.le_refl a) hin.1]
      obtain ⟨p', rfl⟩ : ∃ p', p = p' + 1 := ⟨p - 1, by omega⟩
      rw [nI_pred]
      refine q_crumb (by omega) ?_
      rw [left p' (by omega) (by omega)]
      refine ⟨fun z => absurd rfl z, fun _ => q_crumb (by omega) ?_⟩
      rw [right (p' + 1) (Nat.le_refl _) hin.2]
      refine q_crumb hb ?_
      rw [right b hin.2 (Nat.le_refl b)]
      refine ⟨fun z => absurd rfl z, fun _ => q_crumb (by omega) ?_⟩
      rw [left a (Nat.le_refl a) (by omega)]
      refine q_crumb hb ?_
      rw [right b hin.2 (Nat.le_refl b)]
      exact pm_eq (x + 1) (y + 1) (fun z => absurd z (by omega)) (fun _ => fin)
    · have hex : ∃ i, a ≤ i ∧ i ≤ b ∧ o i ≠ 0 := by
        refine Classical.byContradiction (fun hne => hall (fun i i1 i2 => ?_))
        exact Classical.byContradiction (fun h0 => hne ⟨i, i1, i2, h0⟩)
      have ef : f = false := by
        cases hfe : f with
        | false => rfl
        | true =>
          obtain ⟨i, i1, i2, i3⟩ := hex
          exact absurd ((hf.mp hfe).2 i i1 (by omega)) i3
      subst ef
      refine q_cutBusy hg hj hgj hlt hb hex ?_
      exact ⟨fun _ => ⟨fun z => absurd rfl z, fun _ => hz _ (Af_same hG)⟩, fun z => absurd rfl z⟩
  | succ d ih =>
    intro c f hcd hac hf
    refine F_L_acts_478 _ _ _ _ _ _ _ _ _ _ ?_
    have e1 : nI c + 1 = nI (c + 1) := nI_1 c
    unfold B_L_acts_478
    rw [e1]
    refine pk_lt b c (fun q => absurd q (by omega)) (fun _ => ?_)
    have hc : c < 24 := by omega
    have hoc := ho' c hc
    have gone : ¬ (a ≠ 23 ∧ ∀ i, a ≤ i → i < c + 1 → o i = 0) → Wp_L_acts_478 a1 a2 Z (nI g) (nI j) (nI a) 0 (nI b) (nI (c + 1)) ((n, o, v), k, h) := fun q => ih (c + 1) false (by omega) (by omega) ⟨fun z => (by cases z), fun z => absurd z q⟩
    refine pb_eq (fun hff => gone (fun z => ?_)) (fun hff => q_crumb hc ?_)
    · have := hf.mpr ⟨z.1, fun i i1 i2 => z.2 i i1 (by omega)⟩
      rw [hff] at this
      cases this
    · refine pm_ne (o c) 0 (fun q => gone (fun z => q (z.2 c hac (by omega)))) (fun q => ?_)
      have h2 := hf.mp hff
      refine ih (c + 1) true (by omega) (by omega) ⟨fun _ => ⟨h2.1, fun i i1 i2 => ?_⟩, fun _ => rfl⟩
      by_cases e : i = c
      · subst e; exact q
      · exact h2.2 i i1 (by omega)
theorem a_444 {Z : Int32 → Sg → Prop} {a1 a2 : Int32} {j a b : Nat} (hG : Gd ((n, o, v), k, h)) (hz : Done n o v k h Z) (hg : g < n) (hj : j < n) (hab : a ≤ b) (hb : b < 24) : ((23 : Int32) ≤ nI a → (K_L_acts_444 a1 a2 Z (Wp_L_acts_478 a1 a2 Z) (nI g) (nI j) (nI a) (nI b) ((n, o, v), k, h) (0 : Int32))) ∧ (¬ (23 : Int32) ≤ nI a → (K_L_acts_444 a1 a2 Z (Wp_L_acts_478 a1 a2 Z) (nI g) (nI j) (nI a) (nI b) ((n, o, v), k, h) (1 : Int32))) := by
  refine pk_le 23 a (fun q => ?_) (fun q => ?_)
  · refine pk_le 23 a (fun _ => ?_) (fun q2 => absurd q2 (by omega))
    have e : a = 23 := by omega
    subst e
    exact a_478 hG hz hg hj (b := 23) (Nat.le_refl _) (by omega) (Or.inl rfl) 1 23 false (by omega) (Nat.le_refl _) ⟨fun z => (by cases z), fun z => absurd rfl z.1⟩
  · refine pk_le 23 a (fun q2 => absurd q2 (by omega)) (fun _ => ?_)
    refine pk_le b a (fun _ => ?_) (fun q2 => ?_)
    · exact a_478 hG hz hg hj (b := 23) (by omega) (by omega) (Or.inr q) (24 - a) a true (by omega) (Nat.le_refl _) ⟨fun _ => ⟨by omega, fun i i1 i2 => absurd i2 (by omega)⟩, fun _ => rfl⟩
    · exact a_478 hG hz hg hj hab hb (Or.inr q2) (b + 1 - a) a true (by omega) (Nat.le_refl _) ⟨fun _ => ⟨by omega, fun i i1 i2 => absurd i2 (by omega)⟩, fun _ => rfl⟩
theorem w_Lacts {Z : Int32 → Sg → Prop} {a1 a2 : Int32} (hG : Gd ((n, o, v), k, h)) (hn1 : 1 ≤ n) (hz : Done n o v k h Z) : Wp_L_acts ((n, o, v), k, h) a1 a2 Z := by
  obtain ⟨⟨hn, ho', hv⟩, -, -⟩ := id hG
  have hn : n ≤ 4 := hn
  have hp := q_pow n (by omega)
  refine q_count0 ?_
  refine w_Llow hn1 (by omega) (fun g hg => ?_)
  refine w_Llow hn1 (by omega) (fun j hj => ?_)
  refine w_Llow (m := 24) (by omega) (by omega) (fun a ha => ?_)
  have e1 : (24 : Int32) - nI a = nI (24 - a) := pk_sub (a := 24) (by omega)
  rw [e1]
  refine w_Llow (by omega) (by omega) (fun i hi => ?_)
  rw [nI_add]
  refine ⟨fun _ => ⟨fun _ => ⟨fun _ => ⟨fun _ => ⟨fun _ => ⟨fun _ => ⟨fun _ => ⟨fun _ => ?_, fun _ => ?_⟩, fun _ => ?_⟩, fun _ => ?_⟩, fun _ => ?_⟩, fun _ => ?_⟩, fun _ => ?_⟩, fun _ => ?_⟩, fun _ => ?_⟩
  · exact a_middle hG hz hg
  · exact pk_le 4 n (fun _ => a_middle hG hz hg) (fun q => a_addGuest hG hz q)
  · exact a_exchange hG hz
  · refine pq_ne g j (fun q => a_trim hG hz hg hj q) (fun q => ?_)
    subst q
    exact q_trimBad (by omega) ⟨fun z => absurd rfl z, fun _ => hz _ (Af_same hG)⟩
  · exact a_444 hG hz hg hj (by omega) (by omega)
  · have e2 : ((1 : Int32) <<< (nI n &&& 31)) - 1 = nI (2 ^ n - 1) := by
      rw [q_shl n (by omega)]
      exact pk_sub (b := 1) (by omega)
    rw [e2]
    have hp2 : 2 ≤ 2 ^ n := by
      have := Nat.pow_le_pow_right (n := 2) (by omega) hn1
      omega
    refine w_Llow (by omega) (by omega) (fun s hs => ?_)
    refine w_Llow (m := 100) (by omega) (by omega) (fun P hP => ?_)
    have e3 : (1 : Int32) + nI P = nI (1 + P) := nI_add 1 P
    have e4 : (1 : Int32) + nI s = nI (1 + s) := nI_add 1 s
    rw [e3, e4]
    exact a_move hG hz hg (by omega) (by omega) (by omega) (by omega)
  · exact a_putBack hG hz (by omega) (by omega)
  · exact a_give hG hz hg (by omega) (by omega)
  · refine w_Llow (m := 10) (by omega) (by omega) (fun y hy => ?_)
    exact a_setValue hG hz hg (by omega) (by omega) (by omega)
end ACTSQ
/-! the law itself -/
section LAWQ
theorem lg0 (x y : Int64) : lg_cmp x x = 0 := by
  have h : ¬ x > x := fun q => by
    have := Int64.lt_iff_toInt_lt.mp q
    omega
  simp [lg_cmp, h]
theorem w_told' {σ : Sg} {Z : Int64 → Prop} (hA : okA σ.1) (hz : Z (tld σ.1)) : Wp_L_told σ Z := by
  obtain ⟨⟨n, o, v⟩, k, h⟩ := σ
  exact w_Ltold hA hz
theorem w_rules' {σ : Sg} {Z : Int32 → Prop} (hA : okA σ.1) (hz : Z 1) : Wp_L_rules σ Z := by
  obtain ⟨⟨n, o, v⟩, k, h⟩ := σ
  exact w_Lrules hA hz
theorem w_acts' {σ : Sg} {Z : Int32 → Sg → Prop} {a1 a2 : Int32} (hG : Gd σ) (hn1 : 1 ≤ σ.1.1) (hz : ∀ σ', Af σ σ' → Z 1 σ') : Wp_L_acts σ a1 a2 Z := by
  obtain ⟨⟨n, o, v⟩, k, h⟩ := σ
  exact w_Lacts hG hn1 hz
theorem q_c6 {σ : Sg} {Z : Int32 → Prop} (hz : Z (nI σ.2.1)) : Wq_count σ (6 : Int32) Z := by
  obtain ⟨⟨n, o, v⟩, k, h⟩ := σ
  exact q_count6 hz
theorem recH_last (k : Nat) (h : Nat → CA) (A : CA) (hk : k ≤ 5) : ∃ k', recK k = k' + 1 ∧ recH k h A k' = A := by
  unfold recK recH
  by_cases e : k = 5
  · rw [if_pos e, if_pos e]
    exact ⟨4, rfl, up_s _ _ _⟩
  · rw [if_neg e, if_neg e]
    exact ⟨k, rfl, up_s _ _ _⟩
theorem w_undo' {A : CA} {σ : Sg} {Z : Int32 → Sg → Prop} {k : Nat} {h : Nat → CA} (hk : k ≤ 5) (h1 : σ.2.1 = recK k) (h2 : σ.2.2 = recH k h A) (hz : ∀ k', k' ≤ 5 → k' + 1 = recK k → Z (nI k') (A, k', recH k h A)) : Wq_undo σ Z := by
  obtain ⟨⟨n, o, v⟩, k1, h3⟩ := σ
  have h1 : k1 = recK k := h1
  have h2 : h3 = recH k h A := h2
  obtain ⟨k', e1, e2⟩ := recH_last k h A hk
  have b := recK_le hk
  subst h2
  rw [e1] at h1
  subst h1
  refine q_undo ?_
  rw [e2]
  exact hz k' (by omega) e1.symm
theorem w_law {Z : Int32 → Prop} (h0 : Nat → CA) (hz : Z 1) : Wp_L_law (A0, 0, h0) Z := by
  have hA0 : okA A0 := ⟨Nat.zero_le _, fun _ _ => Nat.zero_le _, fun _ _ _ _ => Nat.zero_le _⟩
  -- the last calls
  have last : ∀ (σ : Sg), Gd σ → B_L_law_188 Z (Wp_L_law_101 Z) (Wp_L_law_119 Z) (Wp_L_law_188 Z) 36 σ := fun σ hG => by
    refine ⟨fun _ => ?_, fun q => absurd (by decide) q⟩
    refine w_told' hG.1 ?_
    have end' : ∀ J1 J2 J3, K_L_law_416 Z J1 J2 J3 (tld σ.1) σ 1 := fun J1 J2 J3 => by
      refine ⟨fun q => absurd q (by decide), fun _ => w_told' hG.1 ?_⟩
      rw [lg0 _ 0]
      exact ⟨fun q => absurd rfl q, fun _ => hz⟩
    obtain ⟨⟨n, o, v⟩, k, h⟩ := σ
    refine q_setValueBad ⟨fun q => absurd rfl q, fun _ => ?_⟩
    refine q_give4 ⟨fun q => absurd rfl q, fun _ => ?_⟩
    refine q_putBack24 ⟨fun q => absurd rfl q, fun _ => ?_⟩
    refine q_move101 ⟨fun q => absurd rfl q, fun _ => ?_⟩
    refine q_move0 ⟨fun q => absurd rfl q, fun _ => ?_⟩
    refine q_trimBad (g := 0) (by omega) ⟨fun q => absurd rfl q, fun _ => ?_⟩
    refine q_best6 ⟨fun q => absurd rfl q, fun _ => ?_⟩
    refine q_crumb24 ⟨fun q => absurd rfl q, fun _ => ?_⟩
    exact q_read4 ⟨fun q => absurd rfl q, fun _ => end' _ _ _⟩
  -- the actions
  have turns : ∀ d i (σ : Sg), i + d = 36 → Gd σ → 1 ≤ σ.1.1 → Wp_L_law_188 Z (nI i) σ := by
    intro d
    induction d with
    | zero =>
      intro i σ hi hG hn1
      refine F_L_law_188 _ _ _ ?_
      have e : i = 36 := by omega
      subst e
      exact last σ hG
    | succ d ih =>
      intro i σ hi hG hn1
      refine F_L_law_188 _ _ _ ?_
      refine pk_le 36 i (fun q => absurd q (by omega)) (fun _ => ?_)
      refine w_told' hG.1 ?_
      refine q_c6 ?_
      have c1 : ¬ (17 : Int32) + (2 : Int32) * nI i < 0 := by
        have : (17 : Int32) + (2 : Int32) * nI i = nI (17 + 2 * i) := by
          show nI 17 + nI 2 * nI i = _
          rw [pk_mul, nI_add]
        rw [this]
        exact nI_pos (by omega)
      have c2 : ¬ (18 : Int32) + (2 : Int32) * nI i < 0 := by
        have : (18 : Int32) + (2 : Int32) * nI i = nI (18 + 2 * i) := by
          show nI 18 + nI 2 * nI i = _
          rw [pk_mul, nI_add]
        rw [this]
        exact nI_pos (by omega)
      refine ⟨c1, fun x => ⟨c2, fun y => ?_⟩⟩
      refine w_acts' hG hn1 (fun σ' hA => ⟨fun q => absurd q (by decide), fun _ => ?_⟩)
      obtain ⟨hG', hn', hor⟩ := hA
      refine w_rules' hG'.1 ⟨fun q => absurd q (by decide), fun _ => ?_⟩
      have step : K_L_law_271 Z (Wp_L_law_101 Z) (Wp_L_law_119 Z) (Wp_L_law_188 Z) (nI i) (tld σ.1) σ' := by
        unfold K_L_law_271
        rw [nI_1]
        have go : Wp_L_law_188 Z (nI (i + 1)) σ' := ih (i + 1) σ' (by omega) hG' (Nat.le_trans hn1 hn')
        refine ⟨fun _ => go, fun _ => w_told' hG'.1 ⟨fun _ => go, fun hne => ?_⟩⟩
        rcases hor with e | ⟨e1, e2⟩
        · subst e
          exact absurd (lg0 _ 0) hne
        · refine w_undo' (A := σ.1) hG.2.1 e1 e2 (fun k' hk' ek => ?_)
          have hGu : Gd (σ.1, k', recH σ.2.1 σ.2.2 σ.1) := by
            refine ⟨hG.1, hk', fun j hj => ?_⟩
            have hj : j < k' := hj
            exact recH_ok hG.2.1 hG.2.2 hG.1 j (by omega)
          refine pk_lt k' 0 (fun q => absurd q (by omega)) (fun _ => ?_)
          refine w_told' (σ := (σ.1, k', recH σ.2.1 σ.2.2 σ.1)) hG.1 ?_
          exact ⟨fun _ => ih (i + 1) _ (by omega) hGu hn1, fun q => absurd (lg0 _ 0) q⟩
      refine q_c6 ?_
      have hk := hG.2.1
      have hk' := hG'.2.1
      refine pq_ne σ'.2.1 σ.2.1 (fun _ => step) (fun hkk => ?_)
      refine pk_le 5 σ.2.1 (fun _ => step) (fun q => w_told' hG'.1 ?_)
      rcases hor with e | ⟨e1, e2⟩
      · subst e
        exact ⟨fun _ => step, fun q => absurd (lg0 _ 0) q⟩
      · unfold recK at e1
        rw [if_neg (by omega)] at e1
        omega
  -- the guests
  have guests : ∀ G, G ≤ 4 → ∀ d g (σ : Sg), g + d = G → 1 ≤ G → Gd σ → σ.1.1 = g → Wp_L_law_101 Z (nI G) (nI g) σ := by
    intro G hG4 d
    induction d with
    | zero =>
      intro g σ hg hG1 hG hn
      refine F_L_law_101 _ _ _ _ ?_
      refine pk_le G g (fun _ => ?_) (fun q => absurd q (by omega))
      exact turns 36 0 σ (by omega) hG (by omega)
    | succ d ih =>
      intro g σ hg hG1 hG hn
      refine F_L_law_101 _ _ _ _ ?_
      refine pk_le G g (fun q => absurd q (by omega)) (fun _ => ?_)
      obtain ⟨⟨n, o, v⟩, k, h⟩ := σ
      have hn : n = g := hn
      subst hn
      obtain ⟨⟨hn4, ho', hv⟩, hk, hh⟩ := id hG
      refine q_addGuest (by omega) ⟨fun _ => ?_, fun q => absurd rfl q⟩
      have vals : ∀ e m (σ : Sg), m + e = 4 → Gd σ → σ.1.1 = n + 1 → Wp_L_law_119 Z (nI G) (nI n) (nI m) σ := by
        intro e
        induction e with
        | zero =>
          intro m σ hm hG hn
          refine F_L_law_119 _ _ _ _ _ ?_
          refine pk_le 4 m (fun _ => ?_) (fun q => absurd q (by omega))
          rw [nI_1]
          exact ih (n + 1) σ (by omega) hG1 hG hn
        | succ e ihe =>
          intro m σ hm hG hn
          refine F_L_law_119 _ _ _ _ _ ?_
          refine pk_le 4 m (fun q => absurd q (by omega)) (fun _ => ?_)
          have c1 : ¬ ((1 : Int32) + (4 : Int32) * nI n) + nI m < 0 := by
            have : ((1 : Int32) + (4 : Int32) * nI n) + nI m = nI (1 + 4 * n + m) := by
              show nI 1 + nI 4 * nI n + nI m = _
              rw [pk_mul, nI_add, nI_add]
            rw [this]
            exact nI_pos (by omega)
          refine ⟨c1, fun x => ?_⟩
          refine w_Llow (m := 12) (by omega) (by omega) (fun a ha => ?_)
          refine w_Llow (m := 12) (by omega) (by omega) (fun b hb => ?_)
          refine w_Llow (m := 10) (by omega) (by omega) (fun y hy => ?_)
          have e1 : (12 : Int32) + nI b = nI (12 + b) := nI_add 12 b
          have e2 : nI m + 1 = nI (m + 1) := nI_1 m
          rw [e1, e2]
          obtain ⟨⟨n2, o2, v2⟩, k2, h2⟩ := σ
          have hn : n2 = n + 1 := hn
          subst hn
          refine q_setValue (g := n) (by omega) (by omega) (by omega) (by omega) ?_
          exact ihe (m + 1) _ (by omega) ⟨⟨hG.1.1, hG.1.2.1, sv_ok (by omega) hG.1.2.2⟩, recK_le hG.2.1, recH_ok hG.2.1 hG.2.2 hG.1⟩ rfl
      exact vals 4 0 _ (by omega) ⟨⟨by show n + 1 ≤ 4; omega, fun j hj => Nat.le_succ_of_le (ho' j hj), sv_ok (by omega) hv⟩, recK_le hk, recH_ok hk hh hG.1⟩ rfl
  -- the start
  have e0 : ringA (Eo (fun _ _ => 0) (fun _ => 0)) 0 = none := rfl
  refine q_best0 rfl ⟨fun q => absurd rfl q, fun _ => ?_⟩
  refine q_calm0 rfl ⟨fun q => absurd rfl q, fun _ => ?_⟩
  refine q_undo0 rfl ⟨fun q => absurd rfl q, fun _ => ?_⟩
  refine q_exchange (fun l hl => by rw [e0] at hl; cases hl) (fun _ => ⟨fun q => absurd rfl q, fun _ => ?_⟩)
  refine q_count1 ⟨fun q => absurd (by decide) q, fun _ => ?_⟩
  refine q_ring (P := 0) (by omega) (fun l hl => by rw [e0] at hl; cases hl) (fun _ => ⟨fun q => absurd rfl q, fun _ => ?_⟩)
  refine q_calls0 rfl ⟨fun q => absurd rfl q, fun _ => ?_⟩
  refine q_count4 (fun _ => ⟨fun _ => ?_, fun q => absurd rfl q⟩) (fun q => absurd rfl q)
  refine ⟨by decide, fun x => w_Llow (m := 4) (by omega) (by omega) (fun j hj => ?_)⟩
  have e1 : (1 : Int32) + nI j = nI (1 + j) := nI_add 1 j
  rw [e1]
  exact guests (1 + j) (by omega) (1 + j) 0 (A0, 0, h0) (by omega) (by omega) ⟨hA0, Nat.zero_le _, fun i hi => absurd hi (Nat.not_lt_zero i)⟩ rfl
end LAWQ
