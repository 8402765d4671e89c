/-! reading the text: class beside reference -/
def dgb (t : Nat → Nat) (L b p : Nat) : Bool := decide (p < L) && (decide (48 + b ≤ t p) && decide (t p ≤ 57))
theorem dgb_1 {t : Nat → Nat} {L b p : Nat} (h : dgb t L b p = true) : p < L ∧ 48 + b ≤ t p ∧ t p ≤ 57 := by
  unfold dgb at h
  simp only [Bool.and_eq_true, decide_eq_true_eq] at h
  exact h
theorem dgb_0 {t : Nat → Nat} {L b p : Nat} (h : ¬ (p < L ∧ 48 + b ≤ t p ∧ t p ≤ 57)) : dgb t L b p = false := by
  cases e : dgb t L b p with
  | false => rfl
  | true => exact absurd (dgb_1 e) h
theorem dgb_2 {t : Nat → Nat} {L b p : Nat} (h : p < L ∧ 48 + b ≤ t p ∧ t p ≤ 57) : dgb t L b p = true := by
  unfold dgb
  simp only [Bool.and_eq_true, decide_eq_true_eq]
  exact h
theorem w_isDigit {t : Nat → Nat} {L p : Nat} {xS : Nat → Int32} {Z : Int32 → Prop} (hL : L ≤ 60) (ht : ∀ i, i < L → t i < 256) (hS : ∀ i, i < L → xS i = nI (t i)) (hp : p < 100) (hz : Z (bI (dgb t L 0 p))) : Wp_X5_isDigit (nI L) xS (nI p) Z := by
  refine pk_lt p 0 (fun q => absurd q (by omega)) (fun _ => pk_le L p (fun q => ?_) (fun q => ⟨q_in (by omega), ?_⟩))
  · rw [dgb_0 (by omega)] at hz
    exact hz
  · have h1 := ht p q
    rw [q_cl p, hS p q]
    refine pk_lt (t p) 48 (fun q2 => ?_) (fun q2 => pk_lt 57 (t p) (fun q3 => ?_) (fun q3 => ?_))
    · rw [dgb_0 (by omega)] at hz
      exact hz
    · rw [dgb_0 (by omega)] at hz
      exact hz
    · rw [dgb_2 (by omega)] at hz
      exact hz
theorem w7_isDigit {t : Nat → Nat} {L p b : Nat} {uX : Nat → Int32} {y : Int32} {Z : Int32 → Prop} (hL : L ≤ 60) (ht : ∀ i, i < L → t i < 256) (hS : ∀ i, i < L → uX i = nI (t i)) (hp : p < 100) (hb : b < 2) (hy : (48 : Int32) + y = nI (48 + b)) (hz : Z (bI (dgb t L b p))) : Wp_X7_isDigit uX (nI L) (nI p) y Z := by
  refine pk_le L p (fun q => ?_) (fun q => ⟨q_in (by omega), ?_⟩)
  · rw [dgb_0 (by omega)] at hz
    exact hz
  · have h1 := ht p q
    rw [q_cl p, hS p q, hy]
    refine w7_in (l := 48 + b) (u := 57) (by omega) (by omega) (fun j j1 j2 e => ?_) (fun hno => ?_)
    · have e1 := (nI_eq (by omega) (by omega)).mp e
      rw [dgb_2 (by omega)] at hz
      exact ⟨fun q => absurd q (by decide), fun _ => hz⟩
    · rw [dgb_0 (fun z => hno (t p) z.2.1 z.2.2 rfl)] at hz
      exact ⟨fun _ => hz, fun q => absurd rfl q⟩
/-- how often, and the place behind it; 0: refused there -/
def tm (t : Nat → Nat) (L a : Nat) : Nat × Nat :=
  cond (dgb t L 1 a) (cond (dgb t L 0 (a + 1)) (cond (dgb t L 0 (a + 2)) (0, a + 2) (10 * (t a - 48) + t (a + 1) - 48, a + 2)) (t a - 48, a + 1)) (0, a)
/-- a part: how often, the place behind it, the value; 0: refused there -/
def pt (t : Nat → Nat) (L p k : Nat) : Nat × Nat × Nat :=
  cond (decide (k < 24) && dgb t L 0 p) (cond (decide (p + 1 < L) && decide (t (p + 1) = 120)) (cond (decide ((tm t L (p + 2)).1 = 0)) (0, (tm t L (p + 2)).2, 0) (cond (decide (k + (tm t L (p + 2)).1 ≤ 24)) ((tm t L (p + 2)).1, (tm t L (p + 2)).2, t p - 48) (0, p + 2, 0))) (1, p + 1, t p - 48)) (0, p, 0)
def fl (V : Nat → Nat) (k d x : Nat) : Nat → Nat := fun i => if k ≤ i ∧ i < k + d then x else V i
def rd (t : Nat → Nat) (L : Nat) : Nat → Nat → Nat → (Nat → Nat) → Option (Nat → Nat) × Nat
  | 0, p, _, _ => (none, p)
  | f + 1, p, k, V => cond (decide ((pt t L p k).1 = 0)) (none, (pt t L p k).2.1) (cond (decide ((pt t L p k).2.1 < L)) (cond (decide (t (pt t L p k).2.1 = 44)) (rd t L f ((pt t L p k).2.1 + 1) (k + (pt t L p k).1) (fl V k (pt t L p k).1 (pt t L p k).2.2)) (none, (pt t L p k).2.1)) (cond (decide (k + (pt t L p k).1 = 24)) (some (fl V k (pt t L p k).1 (pt t L p k).2.2), 0) (none, L)))
theorem tm_le {t : Nat → Nat} {L a : Nat} (h : a ≤ L) : (tm t L a).2 ≤ L ∧ (tm t L a).1 ≤ 99 := by
  unfold tm
  cases h1 : dgb t L 1 a with
  | false => exact ⟨h, Nat.zero_le _⟩
  | true =>
    have a1 := dgb_1 h1
    cases h2 : dgb t L 0 (a + 1) with
    | false => exact ⟨by show a + 1 ≤ L; omega, by show t a - 48 ≤ 99; omega⟩
    | true =>
      have a2 := dgb_1 h2
      cases h3 : dgb t L 0 (a + 2) with
      | false => exact ⟨by show a + 2 ≤ L; omega, by show 10 * (t a - 48) + t (a + 1) - 48 ≤ 99; omega⟩
      | true => exact ⟨by show a + 2 ≤ L; omega, Nat.zero_le _⟩
theorem pt_le {t : Nat → Nat} {L p k : Nat} (h : p ≤ L) : (pt t L p k).2.1 ≤ L ∧ (pt t L p k).2.2 ≤ 9 ∧ ((pt t L p k).1 ≠ 0 → k + (pt t L p k).1 ≤ 24) := by
  unfold pt
  cases h1 : decide (k < 24) && dgb t L 0 p with
  | false => exact ⟨h, Nat.zero_le _, fun q => absurd rfl q⟩
  | true =>
    rw [Bool.and_eq_true, decide_eq_true_eq] at h1
    have a1 := dgb_1 h1.2
    cases h2 : decide (p + 1 < L) && decide (t (p + 1) = 120) with
    | false => exact ⟨by show p + 1 ≤ L; omega, by show t p - 48 ≤ 9; omega, fun _ => by show k + 1 ≤ 24; omega⟩
    | true =>
      rw [Bool.and_eq_true, decide_eq_true_eq, decide_eq_true_eq] at h2
      have a2 := tm_le (t := t) (L := L) (a := p + 2) (by omega)
      cases h3 : decide ((tm t L (p + 2)).1 = 0) with
      | true => exact ⟨a2.1, Nat.zero_le _, fun q => absurd rfl q⟩
      | false =>
        cases h4 : decide (k + (tm t L (p + 2)).1 ≤ 24) with
        | false => exact ⟨by show p + 2 ≤ L; omega, Nat.zero_le _, fun q => absurd rfl q⟩
        | true =>
          rw [decide_eq_true_eq] at h4
          exact ⟨a2.1, by show t p - 48 ≤ 9; omega, fun _ => h4⟩
theorem fl_old {V : Nat → Nat} {k d x i : Nat} (h : i < k) : fl V k d x i = V i := if_neg (by omega)
theorem fl_new {V : Nat → Nat} {k d x i : Nat} (h : k ≤ i) (h2 : i < k + d) : fl V k d x i = x := if_pos ⟨h, h2⟩
theorem rd_ok {t : Nat → Nat} {L : Nat} : ∀ f p k V V' q, p ≤ L → (∀ i, i < k → V i ≤ 9) → rd t L f p k V = (some V', q) → ∀ i, i < 24 → V' i ≤ 9 := by
  intro f
  induction f with
  | zero => intro p k V V' q hp hV e; cases e
  | succ f ih =>
    intro p k V V' q hp hV e
    obtain ⟨b1, b2, b3⟩ := pt_le (t := t) (k := k) hp
    have hV2 : ∀ i, i < k + (pt t L p k).1 → fl V k (pt t L p k).1 (pt t L p k).2.2 i ≤ 9 := fun i hi => by
      by_cases q : i < k
      · rw [fl_old q]; exact hV i q
      · rw [fl_new (by omega) hi]; exact b2
    unfold rd at e
    cases h1 : decide ((pt t L p k).1 = 0) with
    | true => rw [h1] at e; cases e
    | false =>
      rw [h1] at e
      cases h2 : decide ((pt t L p k).2.1 < L) with
      | true =>
        rw [h2] at e
        rw [decide_eq_true_eq] at h2
        cases h3 : decide (t (pt t L p k).2.1 = 44) with
        | false => rw [h3] at e; cases e
        | true =>
          rw [h3] at e
          exact ih _ _ _ V' q (by omega) hV2 e
      | false =>
        rw [h2] at e
        cases h3 : decide (k + (pt t L p k).1 = 24) with
        | false => rw [h3] at e; cases e
        | true =>
          rw [h3] at e
          rw [decide_eq_true_eq] at h3
          cases e
          exact fun i hi => hV2 i (by omega)
theorem w_readTimes {t : Nat → Nat} {L a : Nat} {xS : Nat → Int32} {xp : Int32} {Z : Int32 → Int32 → Prop} (hL : L ≤ 60) (ht : ∀ i, i < L → t i < 256) (hS : ∀ i, i < L → xS i = nI (t i)) (ha : a ≤ 62) (hz : Z (nI (tm t L a).1) (nI (tm t L a).2)) : Wp_X5_readTimes (nI L) xS xp (nI a) Z := by
  unfold tm at hz
  refine w_isDigit hL ht hS (by omega) ?_
  refine pb_eq (fun h0 => ?_) (fun h0 => ?_)
  · have h1 : dgb t L 1 a = false := dgb_0 (fun z => by rw [dgb_2 (by omega)] at h0; cases h0)
    rw [h1] at hz
    exact hz
  · have a0 := dgb_1 h0
    rw [q_cl a, hS a a0.1]
    refine ⟨q_in (by omega), ?_⟩
    refine pq_ne (t a) 48 (fun q => ?_) (fun q => ?_)
    · have h1 : dgb t L 1 a = true := dgb_2 (by omega)
      rw [h1] at hz
      rw [nI_1]
      have e1 : nI (t a) - 48 = nI (t a - 48) := pk_sub (b := 48) (by omega)
      refine w_isDigit hL ht hS (by omega) ?_
      refine pb_eq (fun h2 => ?_) (fun h2 => ?_)
      · rw [h2] at hz
        rw [e1]
        exact hz
      · have a2 := dgb_1 h2
        rw [h2] at hz
        rw [q_cl (a + 1), hS _ a2.1, nI_1]
        refine ⟨q_in (by omega), ?_⟩
        refine w_isDigit hL ht hS (by omega) ?_
        refine pb_eq (fun h3 => ?_) (fun h3 => ?_)
        · rw [h3] at hz
          have e2 : (10 : Int32) * (nI (t a) - 48) + nI (t (a + 1)) - 48 = nI (10 * (t a - 48) + t (a + 1) - 48) := by
            rw [e1]
            have e3 : (10 : Int32) * nI (t a - 48) = nI (10 * (t a - 48)) := pk_mul 10 (t a - 48)
            rw [e3, nI_add]
            exact pk_sub (b := 48) (by omega)
          rw [e2]
          exact hz
        · rw [h3] at hz
          exact hz
    · have h1 : dgb t L 1 a = false := dgb_0 (by omega)
      rw [h1] at hz
      exact hz
