/-! divisions, the reference: the smallest share of a row -/
theorem wk_To {v : Nat → Nat → Nat} {n : Nat} {c : List Nat} {g k : Nat} (hc : okC n c = true) (hk : k < n) : wk v c g k ≤ To v g := by
  obtain ⟨c1, c2, c3, c4, c5⟩ := okC_of hc
  have a1 := c2 k hk
  have a2 := c5 (k + 1)
  have e1 := sg_add (v g) (c.getD k 0) 0 (24 - c.getD k 0)
  have e2 := sg_add (v g) (c.getD (k + 1) 0 - c.getD k 0) (c.getD k 0) (24 - c.getD (k + 1) 0)
  rw [show c.getD k 0 + (24 - c.getD k 0) = 24 by omega, Nat.zero_add] at e1
  rw [show c.getD (k + 1) 0 - c.getD k 0 + (24 - c.getD (k + 1) 0) = 24 - c.getD k 0 by omega] at e2
  show sg (v g) (c.getD k 0) (c.getD (k + 1) 0 - c.getD k 0) ≤ sg (v g) 0 24
  omega
/-- x to y is no more than a to b, through w to t -/
theorem tr3 {x y w t a b : Nat} (h1 : x * t ≤ w * y) (h2 : w * b ≤ a * t) (ht : 0 < t) : x * b ≤ a * y := by
  have e1 : t * (x * b) = x * t * b := by rw [Nat.mul_comm t, Nat.mul_assoc, Nat.mul_comm b t, ← Nat.mul_assoc]
  have e2 : t * (a * y) = a * t * y := by rw [Nat.mul_comm t, Nat.mul_assoc, Nat.mul_comm y t, ← Nat.mul_assoc]
  have e3 : x * t * b ≤ w * y * b := Nat.mul_le_mul_right b h1
  have e4 : w * b * y ≤ a * t * y := Nat.mul_le_mul_right y h2
  have e5 : w * y * b = w * b * y := by rw [Nat.mul_assoc, Nat.mul_comm y b, ← Nat.mul_assoc]
  have e6 : t * (x * b) ≤ t * (a * y) := by omega
  exact Nat.le_of_mul_le_mul_left e6 ht
theorem mnf_min {v : Nat → Nat → Nat} {n : Nat} {c l : List Nat} (hT : ∀ i, i < n → 0 < T1 v (gA l i)) : ∀ d k a b x y, k + d = n → 0 < b → mnf v c l d k (a, b) = (x, y) → x * b ≤ a * y ∧ (∀ j, k ≤ j → j < n → x * T1 v (gA l j) ≤ wk v c (gA l j) j * y) ∧ ((x = a ∧ y = b) ∨ ∃ j, j < n ∧ x = wk v c (gA l j) j ∧ y = T1 v (gA l j)) := by
  intro d
  induction d with
  | zero =>
    intro k a b x y hkd hb e
    have e : (a, b) = (x, y) := e
    cases e
    exact ⟨Nat.le_refl _, fun j h1 h2 => absurd h2 (by omega), Or.inl ⟨rfl, rfl⟩⟩
  | succ d ih =>
    intro k a b x y hkd hb e
    rw [mnf_s] at e
    have hT0 := hT k (by omega)
    by_cases q : wk v c (gA l k) k * b < a * T1 v (gA l k)
    · rw [if_pos q] at e
      obtain ⟨i1, i2, i3⟩ := ih (k + 1) _ _ x y (by omega) hT0 e
      refine ⟨tr3 i1 (Nat.le_of_lt q) hT0, fun j j1 j2 => ?_, ?_⟩
      · by_cases e : j = k
        · subst e; exact i1
        · exact i2 j (by omega) j2
      · rcases i3 with i3 | i3
        · exact Or.inr ⟨k, by omega, i3.1, i3.2⟩
        · exact Or.inr i3
    · rw [if_neg q] at e
      obtain ⟨i1, i2, i3⟩ := ih (k + 1) a b x y (by omega) hb e
      refine ⟨i1, fun j j1 j2 => ?_, i3⟩
      by_cases e : j = k
      · subst e; exact tr3 i1 (Nat.le_of_not_lt q) hb
      · exact i2 j (by omega) j2
theorem poorA_ex {v : Nat → Nat → Nat} {c l : List Nat} {F : FS} : ∀ d k, poorA v c F l d k = true → ∃ j, k ≤ j ∧ j < k + d ∧ poor v c F l j = true
  | 0, k, h => by cases h
  | d + 1, k, h => by
    unfold poorA at h
    rw [Bool.or_eq_true] at h
    rcases h with h | h
    · exact ⟨k, Nat.le_refl k, by omega, h⟩
    · obtain ⟨j, h1, h2, h3⟩ := poorA_ex d (k + 1) h
      exact ⟨j, by omega, by omega, h3⟩
theorem mn_poor {v : Nat → Nat → Nat} {n : Nat} {c l : List Nat} {F : FS} {X Y : Nat} (hn1 : 1 ≤ n) (hT : ∀ i, i < n → 0 < T1 v (gA l i)) (hd : F.2.1 ≠ 0) (e : mn v n c l = (X, Y)) : poorA v c F l n 0 = decide (X * F.2.1 ≤ F.1 * Y) := by
  obtain ⟨i1, i2, i3⟩ := mnf_min hT n 0 _ _ X Y (by omega) (hT 0 (by omega)) e
  have pe : ∀ j, poor v c F l j = decide (wk v c (gA l j) j * F.2.1 ≤ F.1 * T1 v (gA l j)) := fun j => by
    unfold poor
    rw [decide_eq_true hd]
    rfl
  by_cases q : X * F.2.1 ≤ F.1 * Y
  · rw [decide_eq_true q]
    have at' : ∃ j, j < n ∧ X = wk v c (gA l j) j ∧ Y = T1 v (gA l j) := by
      rcases i3 with i3 | i3
      · exact ⟨0, by omega, i3.1, i3.2⟩
      · exact i3
    obtain ⟨j, j1, j2, j3⟩ := at'
    refine poorA_of (p := j) ?_ n 0 (Nat.zero_le _) (by omega)
    rw [pe j, ← j2, ← j3]
    exact decide_eq_true q
  · rw [decide_eq_false q]
    cases hp : poorA v c F l n 0 with
    | false => rfl
    | true =>
      obtain ⟨j, j1, j2, j3⟩ := poorA_ex n 0 hp
      rw [pe j] at j3
      have j3 := of_decide_eq_true j3
      exact absurd (tr3 (i2 j (by omega) (by omega)) j3 (hT j (by omega))) q
/-- the reference's down: 1 for a share of nothing -/
def dn (u d : Nat) : Nat := if u = 0 then 1 else d
def rM (F : FS) (uB : Nat → Int32) (ubw ubu ubd : Int32) : Prop := okF F ∧ (F.2.1 = 0 → ubd = 0) ∧ (F.2.1 ≠ 0 → ubu = nI F.1 ∧ ubd = nI (dn F.1 F.2.1) ∧ ubw = nI F.2.2.1 ∧ ∀ k, k < 5 → uB k = nI (F.2.2.2.getD k 0))
theorem dn_lt {w T a b : Nat} (hT : 0 < T) : (w * dn a b < a * dn w T) ↔ (w * b < a * T) := by
  unfold dn
  by_cases ha : a = 0
  · subst ha; simp
  · rw [if_neg ha]
    by_cases hw : w = 0
    · subst hw
      rw [if_pos rfl, Nat.zero_mul, Nat.mul_one]
      have := Nat.mul_pos (Nat.pos_of_ne_zero ha) hT
      omega
    · rw [if_neg hw]
theorem dn_le {x y u d : Nat} (hd : d ≠ 0) (hy : y ≠ 0) : (x * dn u d ≤ u * dn x y) ↔ (x * d ≤ u * y) := by
  unfold dn
  by_cases hu : u = 0
  · subst hu
    rw [if_pos rfl, Nat.zero_mul, Nat.zero_mul, Nat.mul_one]
    constructor
    · intro h
      have : x = 0 := by omega
      subst this
      simp
    · intro h
      rcases Nat.mul_eq_zero.mp (Nat.le_zero.mp h) with h | h
      · omega
      · exact absurd h hd
  · rw [if_neg hu]
    by_cases hx : x = 0
    · subst hx; simp
    · rw [if_neg hx]
theorem dn_bd {u d : Nat} (hd : d ≤ 216) : dn u d ≤ 216 := by
  unfold dn
  split <;> omega
