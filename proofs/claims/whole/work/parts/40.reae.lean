/-! reading the text, on -/
theorem nI_n1 {q : Nat} (h : q < 2 ^ 31) (e : nI q = -1) : False := by
  have e1 := congrArg Int32.toInt e
  rw [nI_toInt h] at e1
  have e2 : (-1 : Int32).toInt = -1 := by decide
  omega
theorem nI_n9 {q : Nat} (h : q < 2 ^ 31) (e : nI q = -9) : False := by
  have e1 := congrArg Int32.toInt e
  rw [nI_toInt h] at e1
  have e2 : (-9 : Int32).toInt = -9 := by decide
  omega
theorem w_readPart {t : Nat → Nat} {L p k : Nat} {V : Nat → Nat} {xS xV : Nat → Int32} {Z : Int32 → (Nat → Int32) → Int32 → Int32 → Prop} (hL : L ≤ 60) (ht : ∀ i, i < L → t i < 256) (hS : ∀ i, i < L → xS i = nI (t i)) (hp : p ≤ L) (hk : k ≤ 24) (hV : ∀ i, i < k → xV i = nI (V i))
    (h1 : ∀ m q x xV', pt t L p k = (m, q, x) → m ≠ 0 → (∀ i, i < k + m → xV' i = nI (fl V k m x i)) → Z (-1) xV' (nI (k + m)) (nI q))
    (h0 : ∀ q x xV' xt' xp', pt t L p k = (0, q, x) → Z (nI q) xV' xt' xp') : Wp_X5_readPart (nI L) xS xV (nI k) (nI p) Z := by
  have l112 : ∀ m q x, pt t L p k = (m, q, x) → m ≠ 0 → ∀ d j xV', j + d = m → (∀ i, i < k + j → xV' i = nI (fl V k m x i)) → Wp_X5_readPart_112 (nI L) xS Z (nI x) (nI m) (nI j) xV' (nI (k + j)) (nI q) := by
    intro m q x e hm d
    have b := (pt_le (t := t) (k := k) hp).2.2 (by rw [e]; exact hm)
    rw [e] at b
    have b : k + m ≤ 24 := b
    induction d with
    | zero =>
      intro j xV' hjd hb
      refine F_X5_readPart_112 _ _ _ _ _ _ _ _ _ ?_
      have : j = m := by omega
      subst this
      exact pk_le j j (fun _ => h1 j q x xV' e hm hb) (fun q => absurd (Nat.le_refl j) (by omega))
    | succ d ih =>
      intro j xV' hjd hb
      refine F_X5_readPart_112 _ _ _ _ _ _ _ _ _ ?_
      refine pk_le m j (fun q => absurd q (by omega)) (fun _ => pk_le 24 (k + j) (fun q => absurd q (by omega)) (fun _ => ⟨q_in (by omega), ?_⟩))
      have e1 : nI j + 1 = nI (j + 1) := by rw [nI_1]
      have e2 : nI (k + j) + 1 = nI (k + (j + 1)) := by rw [nI_1]; rfl
      rw [e1, e2, q_cl (k + j)]
      refine ih (j + 1) _ (by omega) (fun i hi => ?_)
      by_cases q : i = k + j
      · subst q
        rw [pk_us, fl_new (by omega) (by omega)]
      · rw [pk_un q]
        exact hb i (by omega)
  have go : ∀ m q x, pt t L p k = (m, q, x) → m ≠ 0 → Wp_X5_readPart_112 (nI L) xS Z (nI x) (nI m) 0 xV (nI k) (nI q) := fun m q x e hm => l112 m q x e hm m 0 xV (by omega) (fun i hi => by rw [fl_old (show i < k from hi)]; exact hV i hi)
  have ept : pt t L p k = cond (decide (k < 24) && dgb t L 0 p) (cond (decide (p + 1 < L) && decide (t (p + 1) = 120)) (cond (decide ((tm t L (p + 2)).1 = 0)) (0, (tm t L (p + 2)).2, 0) (cond (decide (k + (tm t L (p + 2)).1 ≤ 24)) ((tm t L (p + 2)).1, (tm t L (p + 2)).2, t p - 48) (0, p + 2, 0))) (1, p + 1, t p - 48)) (0, p, 0) := rfl
  refine pk_le 24 k (fun q => ?_) (fun q => ?_)
  · rw [decide_eq_false (by omega), Bool.false_and] at ept
    exact h0 p 0 _ _ _ ept
  · rw [decide_eq_true (by omega), Bool.true_and] at ept
    refine w_isDigit hL ht hS (by omega) ?_
    refine pb_ne (fun hd => ?_) (fun hd => ?_)
    · rw [hd] at ept
      have a0 := dgb_1 hd
      have e1 : nI (t p) - 48 = nI (t p - 48) := pk_sub (b := 48) (by omega)
      rw [q_cl p, hS p a0.1, e1, nI_1]
      refine ⟨q_in (by omega), ?_⟩
      refine pk_le L (p + 1) (fun q2 => ?_) (fun q2 => ⟨q_in (by omega), ?_⟩)
      · rw [decide_eq_false (show ¬ p + 1 < L by omega), Bool.false_and] at ept
        exact go 1 (p + 1) (t p - 48) ept (by omega)
      · rw [decide_eq_true (show p + 1 < L by omega), Bool.true_and] at ept
        have b1 := ht (p + 1) (by omega)
        rw [q_cl (p + 1), hS (p + 1) (by omega)]
        refine pq_ne (t (p + 1)) 120 (fun q3 => ?_) (fun q3 => ?_)
        · rw [decide_eq_false q3] at ept
          exact go 1 (p + 1) (t p - 48) ept (by omega)
        · rw [decide_eq_true q3] at ept
          rw [nI_1]
          refine w_readTimes hL ht hS (by omega) ?_
          have b2 := tm_le (t := t) (L := L) (a := p + 2) (by omega)
          have e3 : nI k + nI (tm t L (p + 1 + 1)).1 = nI (k + (tm t L (p + 2)).1) := by rw [nI_add]
          rw [e3]
          refine pk_lt 0 (tm t L (p + 2)).1 (fun q4 => ?_) (fun q4 => ?_)
          · rw [decide_eq_false (show ¬ (tm t L (p + 2)).1 = 0 by omega)] at ept
            refine pk_le (k + (tm t L (p + 2)).1) 24 (fun q5 => ?_) (fun q5 => ?_)
            · rw [decide_eq_true q5] at ept
              exact go (tm t L (p + 2)).1 _ _ ept (by omega)
            · rw [decide_eq_false (by omega)] at ept
              exact h0 _ _ _ _ _ ept
          · rw [decide_eq_true (show (tm t L (p + 2)).1 = 0 by omega)] at ept
            exact h0 _ _ _ _ _ ept
    · rw [hd] at ept
      exact h0 p 0 _ _ _ ept
theorem rd_step {t : Nat → Nat} {L p k m q x : Nat} {f : Nat} {V : Nat → Nat} (e : pt t L p k = (m, q, x)) : rd t L (f + 1) p k V = cond (decide (m = 0)) (none, q) (cond (decide (q < L)) (cond (decide (t q = 44)) (rd t L f (q + 1) (k + m) (fl V k m x)) (none, q)) (cond (decide (k + m = 24)) (some (fl V k m x), 0) (none, L))) := by
  rw [rd, e]
theorem w_findFailure {t : Nat → Nat} {L : Nat} {V : Nat → Nat} {xS xV : Nat → Int32} {xt xp : Int32} {Z : Int32 → (Nat → Int32) → Int32 → Int32 → Prop} (hL : L ≤ 60) (ht : ∀ i, i < L → t i < 256) (hS : ∀ i, i < L → xS i = nI (t i))
    (h1 : ∀ V' q xV' xt' xp', rd t L 25 0 0 V = (some V', q) → (∀ i, i < 24 → xV' i = nI (V' i)) → Z (-1) xV' xt' xp')
    (h0 : ∀ q xV' xt' xp', rd t L 25 0 0 V = (none, q) → q ≤ L → Z (nI q) xV' xt' xp') : Wp_X5_findFailure (nI L) xS xV xt xp Z := by
  have key : ∀ f c p k V1 xV', f + c = 25 → c ≤ k → k ≤ 24 → p ≤ L → (∀ i, i < k → xV' i = nI (V1 i)) → rd t L 25 0 0 V = rd t L f p k V1 → Wp_X5_findFailure_12 (nI L) xS Z (nI c) xV' (nI k) (nI p) := by
    intro f
    induction f with
    | zero => intro c p k V1 xV' h1; omega
    | succ f ih =>
      intro c p k V1 xV' hfc hck hk hp hV hr
      refine F_X5_findFailure_12 _ _ _ _ _ _ _ ?_
      refine pk_lt 24 c (fun q => absurd q (by omega)) (fun _ => ?_)
      have bb := pt_le (t := t) (k := k) hp
      refine w_readPart hL ht hS hp hk hV (fun m q x xV2 e hm hV2 => ?_) (fun q x xV2 xt2 xp2 e => ?_)
      · refine ⟨fun _ => ?_, fun q2 => absurd rfl q2⟩
        rw [rd_step e, decide_eq_false hm] at hr
        rw [e] at bb
        have b1 : q ≤ L := bb.1
        have b2 : k + m ≤ 24 := bb.2.2 hm
        refine pk_lt q L (fun q2 => ⟨q_in (by omega), ?_⟩) (fun q2 => ?_)
        · rw [decide_eq_true q2] at hr
          have b3 := ht q q2
          rw [q_cl q, hS q q2]
          have e1 : nI c + 1 = nI (c + 1) := by rw [nI_1]
          have e2 : nI q + 1 = nI (q + 1) := by rw [nI_1]
          rw [e1, e2]
          refine pk_eq (t q) 44 (fun q3 => ?_) (fun q3 => ?_)
          · rw [decide_eq_true q3] at hr
            exact ih (c + 1) (q + 1) (k + m) _ xV2 (by omega) (by omega) b2 (by omega) hV2 hr
          · rw [decide_eq_false q3] at hr
            exact h0 q _ _ _ hr b1
        · rw [decide_eq_false (show ¬ q < L by omega)] at hr
          refine pq_ne (k + m) 24 (fun q3 => ?_) (fun q3 => ?_)
          · rw [decide_eq_false q3] at hr
            exact h0 L _ _ _ hr (Nat.le_refl L)
          · rw [decide_eq_true q3] at hr
            exact h1 _ _ _ _ _ hr (fun i hi => hV2 i (by omega))
      · rw [rd_step e] at hr
        rw [e] at bb
        have b1 : q ≤ L := bb.1
        exact ⟨fun q2 => (nI_n1 (by omega) q2).elim, fun _ => h0 q _ _ _ hr b1⟩
  exact key 25 0 0 0 V xV (by omega) (by omega) (by omega) (by omega) (fun i hi => absurd hi (by omega)) rfl
theorem w7_reads {t : Nat → Nat} {L : Nat} {V : Nat → Nat} {uX uT : Nat → Int32} {Z : Int32 → (Nat → Int32) → Prop} (hL : L ≤ 60) (ht : ∀ i, i < L → t i < 256) (hS : ∀ i, i < L → uX i = nI (t i))
    (h1 : ∀ V' q uT', rd t L 25 0 0 V = (some V', q) → (∀ i, i < 24 → uT' i = nI (V' i)) → Z (-9) uT')
    (h0 : ∀ q uT', rd t L 25 0 0 V = (none, q) → q ≤ L → Z (nI q) uT') : Wp_X7_reads uX (nI L) uT Z := by
  have key : ∀ f p k V1 uT', 25 ≤ f + k → k ≤ 24 → p ≤ L → (∀ i, i < k → uT' i = nI (V1 i)) → rd t L 25 0 0 V = rd t L f p k V1 → Wp_X7_reads_6 uX (nI L) Z (nI p) (nI k) 1 uT' := by
    intro f
    induction f with
    | zero => intro p k V1 uT' h1; omega
    | succ f ih =>
      intro p k V1 uT' hfk hk hp hV hr
      refine F_X7_reads_6 _ _ _ _ _ _ _ ?_
      have bb := pt_le (t := t) (k := k) hp
      have no : ∀ q x, pt t L p k = (0, q, x) → Z (nI q) uT' := fun q x e => by
        rw [rd_step e] at hr
        rw [e] at bb
        exact h0 q _ hr bb.1
      have l149 : ∀ m q x, pt t L p k = (m, q, x) → m ≠ 0 → ∀ d j uT2, j + d = m → (∀ i, i < k + j → uT2 i = nI (fl V1 k m x i)) → Wp_X7_reads_149 uX (nI L) Z (nI q) (nI (k + j)) (nI x) (nI m) (nI j) uT2 := by
        intro m q x e hm d
        rw [rd_step e, decide_eq_false hm] at hr
        rw [e] at bb
        have b1 : q ≤ L := bb.1
        have b2 : k + m ≤ 24 := bb.2.2 hm
        induction d with
        | zero =>
          intro j uT2 hjd hb
          refine F_X7_reads_149 _ _ _ _ _ _ _ _ _ ?_
          have : j = m := by omega
          subst this
          refine pk_le j j (fun _ => ?_) (fun q => absurd (Nat.le_refl j) (by omega))
          have fin0 : ∀ (hz : q < L → ¬ t q = 44), K_X7_reads_197 uX (nI L) Z (Wp_X7_reads_6 uX (nI L) Z) (Wp_X7_reads_149 uX (nI L) Z) (nI q) (nI (k + j)) uT2 0 := fun hz => by
            refine ⟨fun _ => ?_, fun z => absurd rfl z⟩
            have e0 : nI q + 0 = nI q := nI_add q 0
            rw [e0]
            refine F_X7_reads_6 _ _ _ _ _ _ _ ?_
            refine ⟨fun _ => ?_, fun z => absurd rfl z⟩
            refine pk_lt q L (fun q2 => ?_) (fun q2 => ?_)
            · rw [decide_eq_true q2, decide_eq_false (hz q2)] at hr
              exact h0 q _ hr b1
            · rw [decide_eq_false (show ¬ q < L by omega)] at hr
              refine pk_le 24 (k + j) (fun q3 => ?_) (fun q3 => ?_)
              · rw [decide_eq_true (show k + j = 24 by omega)] at hr
                exact h1 _ _ _ hr (fun i hi => hb i (by omega))
              · rw [decide_eq_false (show ¬ k + j = 24 by omega)] at hr
                have : q = L := by omega
                subst this
                exact h0 q _ hr b1
          refine pk_le L q (fun q2 => fin0 (fun z => absurd z (by omega))) (fun q2 => ⟨q_in (by omega), ?_⟩)
          have b3 := ht q q2
          rw [q_cl q, hS q q2]
          refine pq_ne (t q) 44 (fun q3 => fin0 (fun _ => q3)) (fun q3 => ?_)
          refine ⟨fun z => absurd z (by decide), fun _ => ?_⟩
          rw [decide_eq_true q2, decide_eq_true q3] at hr
          rw [nI_1]
          exact ih (q + 1) (k + j) _ uT2 (by omega) b2 (by omega) hb hr
        | succ d ihd =>
          intro j uT2 hjd hb
          refine F_X7_reads_149 _ _ _ _ _ _ _ _ _ ?_
          refine pk_le m j (fun q => absurd q (by omega)) (fun _ => ⟨q_in (by omega), ?_⟩)
          have e1 : nI j + 1 = nI (j + 1) := by rw [nI_1]
          have e2 : nI (k + j) + 1 = nI (k + (j + 1)) := by rw [nI_1]; rfl
          rw [e1, e2, q_cl (k + j)]
          refine ihd (j + 1) _ (by omega) (fun i hi => ?_)
          by_cases z : i = k + j
          · subst z
            rw [pk_us, fl_new (by omega) (by omega)]
          · rw [pk_un z]
            exact hb i (by omega)
      have go : ∀ m q x, pt t L p k = (m, q, x) → m ≠ 0 → Wp_X7_reads_149 uX (nI L) Z (nI q) (nI k) (nI x) (nI m) 0 uT' := fun m q x e hm => l149 m q x e hm m 0 uT' (by omega) (fun i hi => by rw [fl_old (show i < k from hi)]; exact hV i hi)
      have ept : pt t L p k = cond (decide (k < 24) && dgb t L 0 p) (cond (decide (p + 1 < L) && decide (t (p + 1) = 120)) (cond (decide ((tm t L (p + 2)).1 = 0)) (0, (tm t L (p + 2)).2, 0) (cond (decide (k + (tm t L (p + 2)).1 ≤ 24)) ((tm t L (p + 2)).1, (tm t L (p + 2)).2, t p - 48) (0, p + 2, 0))) (1, p + 1, t p - 48)) (0, p, 0) := rfl
      have etm : tm t L (p + 2) = cond (dgb t L 1 (p + 2)) (cond (dgb t L 0 (p + 2 + 1)) (cond (dgb t L 0 (p + 2 + 2)) (0, p + 2 + 2) (10 * (t (p + 2) - 48) + t (p + 2 + 1) - 48, p + 2 + 2)) (t (p + 2) - 48, p + 2 + 1)) (0, p + 2) := rfl
      refine ⟨fun z => absurd z (by decide), fun _ => ?_⟩
      refine w7_isDigit (b := 0) hL ht hS (by omega) (by omega) rfl ?_
      refine pb_eq (fun hd => ?_) (fun hd => ?_)
      · rw [hd, Bool.and_false] at ept
        exact no p 0 ept
      · rw [hd, Bool.and_true] at ept
        have a0 := dgb_1 hd
        refine pq_ne k 24 (fun q => ⟨q_in (by omega), ?_⟩) (fun q => ?_)
        · rw [decide_eq_true (show k < 24 by omega)] at ept
          have e1 : nI (t p) - 48 = nI (t p - 48) := pk_sub (b := 48) (by omega)
          rw [q_cl p, hS p a0.1, e1, nI_1]
          refine pk_le L (p + 1) (fun q2 => ?_) (fun q2 => ⟨q_in (by omega), ?_⟩)
          · rw [decide_eq_false (show ¬ p + 1 < L by omega), Bool.false_and] at ept
            exact go 1 (p + 1) (t p - 48) ept (by omega)
          · rw [decide_eq_true (show p + 1 < L by omega), Bool.true_and] at ept
            have b1 := ht (p + 1) (by omega)
            rw [q_cl (p + 1), hS (p + 1) (by omega)]
            refine pq_ne (t (p + 1)) 120 (fun q3 => ?_) (fun q3 => ?_)
            · rw [decide_eq_false q3] at ept
              exact go 1 (p + 1) (t p - 48) ept (by omega)
            · rw [decide_eq_true q3] at ept
              have e2 : nI (p + 1) + 1 = nI (p + 2) := by rw [nI_1]
              have e3 : nI (p + 2) + 1 = nI (p + 2 + 1) := by rw [nI_1]
              have e4 : nI (p + 2 + 1) + 1 = nI (p + 2 + 2) := by rw [nI_1]
              rw [e2]
              refine w7_isDigit (b := 1) hL ht hS (by omega) (by omega) rfl ?_
              refine pb_ne (fun h1' => ?_) (fun h1' => ?_)
              · have a2 := dgb_1 h1'
                rw [h1'] at etm
                have e5 : nI (t (p + 2)) - 48 = nI (t (p + 2) - 48) := pk_sub (b := 48) (by omega)
                rw [q_cl (p + 2), hS (p + 2) a2.1, e3, e5]
                refine ⟨q_in (by omega), ?_⟩
                refine w7_isDigit (b := 0) hL ht hS (by omega) (by omega) rfl ?_
                -- the rest, behind the number
                have k123 : ∀ m q, tm t L (p + 2) = (m, q) → m ≠ 0 → q ≤ L → m < 100 → dgb t L 0 q = false → K_X7_reads_123 uX (nI L) Z (Wp_X7_reads_6 uX (nI L) Z) (Wp_X7_reads_149 uX (nI L) Z) (nI q) (nI k) (nI (t p - 48)) (nI m) (nI (p + 2)) uT' := fun m q e hm hq hm2 hdq => by
                  rw [e] at ept
                  have ept : pt t L p k = cond (decide (m = 0)) (0, q, 0) (cond (decide (k + m ≤ 24)) (m, q, t p - 48) (0, p + 2, 0)) := ept
                  rw [decide_eq_false hm] at ept
                  refine w7_isDigit (b := 0) hL ht hS (by omega) (by omega) rfl ?_
                  rw [hdq]
                  refine ⟨fun _ => ?_, fun z => absurd rfl z⟩
                  have e6 : (24 : Int32) - nI k = nI (24 - k) := pk_sub (a := 24) (by omega)
                  rw [e6]
                  refine pk_le m (24 - k) (fun q4 => ?_) (fun q4 => ?_)
                  · rw [decide_eq_true (show k + m ≤ 24 by omega)] at ept
                    exact go m q _ ept hm
                  · rw [decide_eq_false (show ¬ k + m ≤ 24 by omega)] at ept
                    exact no _ _ ept
                refine pb_eq (fun h2 => ?_) (fun h2 => ⟨q_in (by have := dgb_1 h2; omega), ?_⟩)
                · rw [h2] at etm
                  exact k123 _ _ etm (by omega) (by omega) (by omega) h2
                · have a3 := dgb_1 h2
                  rw [h2] at etm
                  have e7 : (10 : Int32) * nI (t (p + 2) - 48) = nI (10 * (t (p + 2) - 48)) := pk_mul 10 (t (p + 2) - 48)
                  have e8 : nI (10 * (t (p + 2) - 48)) + nI (t (p + 2 + 1)) - 48 = nI (10 * (t (p + 2) - 48) + t (p + 2 + 1) - 48) := by
                    rw [nI_add]
                    exact pk_sub (b := 48) (by omega)
                  rw [q_cl (p + 2 + 1), hS _ a3.1, e4, e7, e8]
                  cases h3 : dgb t L 0 (p + 2 + 2) with
                  | false =>
                    rw [h3] at etm
                    exact k123 _ _ etm (by omega) (by omega) (by omega) h3
                  | true =>
                    rw [h3] at etm
                    rw [etm] at ept
                    refine w7_isDigit (b := 0) hL ht hS (by omega) (by omega) rfl ?_
                    rw [h3]
                    exact ⟨fun z => absurd z (by decide), fun _ => no _ _ ept⟩
              · rw [h1'] at etm
                rw [etm] at ept
                exact no _ _ ept
        · rw [decide_eq_false (show ¬ k < 24 by omega)] at ept
          exact no p 0 ept
  exact key 25 0 0 V uT (by omega) (by omega) (by omega) (fun i hi => absurd hi (by omega)) rfl
