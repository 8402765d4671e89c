/-! divisions, the class: the rows without envy -/
theorem fold_dwl {α : Type} (f : α → List Nat → α) (a : α) (p : Nat) (l : List Nat) (h : ∀ x : List Nat, x.take (p + 1) = l.take (p + 1) → f a x = a) : ∀ L : List (List Nat), L.foldl f a = (dwl p l L).foldl f a
  | [] => rfl
  | x :: L => by
    unfold dwl
    split
    · rename_i e
      rw [List.foldl_cons, h x e]
      exact fold_dwl f a p l h L
    · rfl
theorem dwl_len (p : Nat) (l : List Nat) : ∀ L : List (List Nat), (dwl p l L).length ≤ L.length
  | [] => Nat.le_refl _
  | x :: L => by
    unfold dwl
    split
    · have := dwl_len p l L
      rw [List.length_cons]
      omega
    · exact Nat.le_refl _
theorem pck_tail {n : Nat} {l : List Nat} {L : List (List Nat)} (h : pck n (l :: L) = true) : l.length = n ∧ (l.all (fun x => decide (x < n)) = true) ∧ advN n n l n = L.head? ∧ (∀ p, p < n → advN n n l p = (dwl p l L).head?) ∧ pck n L = true := by
  unfold pck at h
  simp only [Bool.and_eq_true, decide_eq_true_eq, beq_iff_eq] at h
  refine ⟨h.1, h.2.1, h.2.2.1, fun p hp => ?_, h.2.2.2.2⟩
  have h3 := List.all_eq_true.mp h.2.2.2.1 p (List.mem_range.mpr hp)
  exact beq_iff_eq.mp h3
theorem pck_dwl {n p : Nat} {l : List Nat} : ∀ L : List (List Nat), pck n L = true → pck n (dwl p l L) = true
  | [], h => h
  | x :: L, h => by
    unfold dwl
    split
    · exact pck_dwl L (pck_tail h).2.2.2.2
    · exact h
theorem take_gA {x l : List Nat} {p : Nat} (h : x.take (p + 1) = l.take (p + 1)) : gA x p = gA l p := by
  unfold gA
  rw [← take_getD (l := x) (i := p + 1) (j := p) (by omega), ← take_getD (l := l) (i := p + 1) (j := p) (by omega), h]
theorem envA_of {v : Nat → Nat → Nat} {n : Nat} {c l : List Nat} {p : Nat} (h : enA v c l p n 0 = true) : ∀ d k, k ≤ p → p < k + d → envA v n c l d k = true
  | 0, k, h1, h2 => absurd h2 (by omega)
  | d + 1, k, h1, h2 => by
    unfold envA
    by_cases e : k = p
    · subst e; rw [h]; rfl
    · rw [envA_of h d (k + 1) (by omega) (by omega), Bool.or_true]
theorem enA_congr {v : Nat → Nat → Nat} {c l x : List Nat} {p : Nat} (h : gA x p = gA l p) : ∀ d o, enA v c x p d o = enA v c l p d o
  | 0, _ => rfl
  | d + 1, o => by
    unfold enA
    rw [h, enA_congr h d (o + 1)]
theorem stQ_skip {v : Nat → Nat → Nat} {n : Nat} {c l x : List Nat} {p : Nat} {Q : QS} (hp : p < n) (h : enA v c l p n 0 = true) (hx : x.take (p + 1) = l.take (p + 1)) : stQ v n c Q x = Q := by
  unfold stQ
  rw [if_pos]
  exact envA_of (by rw [enA_congr (take_gA hx)]; exact h) n 0 (Nat.zero_le _) (by omega)
theorem w_firstEnvious {v : Nat → Nat → Nat} {n : Nat} {c l : List Nat} {GR rt : Nat → Int32} {PA : Nat → Nat → Int32} {Z : Int32 → Prop} (hn : n ≤ 4) (hv : okV v) (hc : okC n c = true) (hP : rP v n c PA) (hG : rG v n c GR) (hl : l.length = n) (hlt : ∀ i, i < n → l.getD i 0 < n) (hr : rR l rt)
    (h0 : envA v n c l n 0 = false → Z (nI n)) (h1 : ∀ p, p < n → enA v c l p n 0 = true → Z (nI p)) : Wp_X1_firstEnvious (nI n) PA GR rt Z := by
  have key : ∀ d k, k + d = n → (envA v n c l d k = false → Z (nI n)) → Wp_X1_firstEnvious_2 (nI n) PA GR rt Z (nI k) := by
    intro d
    induction d with
    | zero =>
      intro k hkd hz
      refine F_X1_firstEnvious_2 _ _ _ _ _ _ ?_
      exact pk_le n k (fun _ => hz rfl) (fun q => absurd q (by omega))
    | succ d ih =>
      intro k hkd hz
      refine F_X1_firstEnvious_2 _ _ _ _ _ _ ?_
      have hk : k < n := by omega
      have a1 := hlt k hk
      have b1 := gx_bd (d := n) (k := 0) (m := 0) hv (show l.getD k 0 < 4 by omega) hc (by omega)
      have b2 := wk_le (k := k) hv (show l.getD k 0 < 4 by omega) hc
      unfold B_X1_firstEnvious_2
      rw [q_cl k, hr k (by omega), q_cl (l.getD k 0), hG _ a1, hP _ a1 k hk, nI_1]
      refine pk_le n k (fun q => absurd q (by omega)) (fun _ => ⟨q_in (by omega), q_in (by omega), ?_⟩)
      refine pk_le _ _ (fun q => ?_) (fun q => ?_)
      · refine ih (k + 1) (by omega) (fun he => hz ?_)
        unfold envA
        rw [he, Bool.or_false]
        exact (enA_iff n 0).mpr (fun j j1 j2 => ((gx_le n 0 0).mp q).2 j j1 j2)
      · refine h1 k hk ?_
        cases e : enA v c l k n 0 with
        | true => rfl
        | false =>
          exact absurd ((gx_le n 0 0).mpr ⟨Nat.zero_le _, (enA_iff n 0).mp e⟩) (by show ¬ _ ≤ wk v c (gA l k) k; unfold gA; omega)
  exact key n 0 (by omega) h0
theorem w_seekQuiet {v : Nat → Nat → Nat} {n : Nat} {c : List Nat} {Q : QS} {ST GR rt : Nat → Int32} {PA : Nat → Nat → Int32} {rs rg : Int32} {Z : Int32 → Int32 → Int32 → (Nat → Int32) → Int32 → Int32 → Prop} (hn1 : 1 ≤ n) (hn : n ≤ 4) (hv : okV v) (hc : okC n c = true) (hS : rS n c ST) (hP : rP v n c PA) (hG : rG v n c GR)
    (hz : ∀ rt' rs' rg', Z (cQ v n Q c).1 (cQ v n Q c).2.1 (cQ v n Q c).2.2 rt' rs' rg') : Wp_X1_seekQuiet Q.1 Q.2.1 Q.2.2 (nI n) ST PA GR rt rs rg Z := by
  have key : ∀ N (L : List (List Nat)) (l : List Nat) (j : Nat) (Q : QS) (rt : Nat → Int32), L.length < N → pck n (l :: L) = true → j + (l :: L).length ≤ 1000 → rR l rt → okR l → (∀ rt' rs' rg', Z ((l :: L).foldl (stQ v n c) Q).1 ((l :: L).foldl (stQ v n c) Q).2.1 ((l :: L).foldl (stQ v n c) Q).2.2 rt' rs' rg') → Wp_X1_seekQuiet_19 (nI n) ST PA GR Z 1 (nI j) Q.1 Q.2.1 Q.2.2 rt (nI n) (nI n) := by
    intro N
    induction N with
    | zero => intro L l j Q rt h; omega
    | succ N ih =>
      intro L l j Q rt hN hpc hj hr ok hz
      obtain ⟨p1, p2, p3, p4, p5⟩ := pck_tail hpc
      have hlt : ∀ i, i < n → l.getD i 0 < n := fun i hi => all_getD p2 (by omega)
      rw [List.length_cons] at hj
      have next : ∀ p (Q' : QS) (L' : List (List Nat)), p < 100 → advN n n l p = L'.head? → pck n L' = true → L'.length ≤ L.length → (∀ rt' rs' rg', Z (L'.foldl (stQ v n c) Q').1 (L'.foldl (stQ v n c) Q').2.1 (L'.foldl (stQ v n c) Q').2.2 rt' rs' rg') → Wp_X4_advance rt (nI n) (nI n) (nI p) (fun r_12 drT_11 => Wp_X1_seekQuiet_19 (nI n) ST PA GR Z r_12 (nI j + 1) Q'.1 Q'.2.1 Q'.2.2 drT_11 (nI n) (nI n)) := by
        intro p Q' L' hp100 hadv hpc' hlen hz'
        rw [nI_1]
        refine w_advance hn hn hn1 hp100 p1 hr ok (fun l' rt' e r1 r2 r3 => ?_) (fun e => ?_)
        · rw [hadv] at e
          cases L' with
          | nil => cases e
          | cons l2 L2 =>
            have e : l2 = l' := by simpa using e
            subst e
            rw [List.length_cons] at hlen
            exact ih L2 l2 (j + 1) Q' rt' (by omega) hpc' (by rw [List.length_cons]; omega) r1 r2 hz'
        · rw [hadv] at e
          cases L' with
          | cons l2 L2 => cases e
          | nil =>
            refine F_X1_seekQuiet_19 _ _ _ _ _ _ _ _ _ _ _ _ _ ?_
            exact ⟨fun _ => hz' _ _ _, fun q => absurd rfl q⟩
      refine F_X1_seekQuiet_19 _ _ _ _ _ _ _ _ _ _ _ _ _ ?_
      refine ⟨fun q => absurd q (by decide), fun _ => pk_le 1000000 j (fun q => absurd q (by omega)) (fun _ => ?_) rfl rfl (by omega) (by omega)⟩
      refine w_firstEnvious hn hv hc hP hG p1 hlt hr (fun he => ?_) (fun p hp he => ?_)
      · refine ⟨fun q => absurd rfl q, fun _ => ?_⟩
        have e1 : stQ v n c Q l = (Q.1 + 1, if Q.1 = 0 then (nI (gA l 0), nI (c.getD 1 0)) else (Q.2.1, Q.2.2)) := by
          unfold stQ
          rw [he]
          rfl
        rw [List.foldl_cons, e1] at hz
        have f0 : rt (0 : Int32).toNatClampNeg = nI (gA l 0) := hr 0 (by omega)
        have f1 : ST (1 : Int32).toNatClampNeg = nI (c.getD 1 0) := hS 1 hn1
        by_cases q : Q.1 = 0
        · refine ⟨fun q2 => absurd q q2, fun _ => ⟨q_in (k := 0) (by omega), q_in (k := 1) (by omega), ?_⟩⟩
          rw [if_pos q] at hz
          rw [f0, f1]
          exact next n (Q.1 + 1, nI (gA l 0), nI (c.getD 1 0)) L (by omega) p3 p5 (Nat.le_refl _) hz
        · refine ⟨fun _ => ?_, fun q2 => absurd q2 q⟩
          rw [if_neg q] at hz
          exact next n (Q.1 + 1, Q.2.1, Q.2.2) L (by omega) p3 p5 (Nat.le_refl _) hz
      · refine pq_ne p n (fun _ => ?_) (fun q => absurd q (by omega))
        have e1 : stQ v n c Q l = Q := stQ_skip hp he rfl
        rw [List.foldl_cons, e1, fold_dwl (stQ v n c) Q p l (fun x hx => stQ_skip hp he hx)] at hz
        exact next p Q (dwl p l L) (by omega) (p4 p hp) (pck_dwl L p5) (dwl_len p l L) hz
  refine w_begin hn hn (fun rt' r1 r2 => ?_)
  have h2 := Pn_head n (by omega) hn1
  have h3 := Pn_pck n (by omega) hn1
  have h4 := Pn_len n (by omega) hn1
  unfold cQ at hz
  cases hL : Pn n with
  | nil => rw [hL] at h2; cases h2
  | cons l L =>
    rw [hL] at h2 h3 h4 hz
    have h2 : l = fillN n n [] := by simpa using h2
    subst h2
    exact key (L.length + 1) L _ 0 Q rt' (by omega) h3 (by omega) r1 r2 hz
