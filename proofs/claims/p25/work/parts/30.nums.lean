/-! numbers, sums, what a cake is: owners (0 the table, k + 1 the guest k), values; how the class and the reference hold it -/
theorem q_in {k N : Nat} (h : k < N) (hN : N < 2 ^ 31 := by omega) : vp_in (nI k) N := vp_in_nI h hN
theorem q_cl (k : Nat) (h : k < 2 ^ 31 := by omega) : (nI k).toNatClampNeg = k := nI_clamp h
theorem pq_ne {x y : Int32} {A B : Prop} (a b : Nat) (f : a ≠ b → A) (g : a = b → B) (hx : x = nI a := by rfl) (hy : y = nI b := by rfl) (ha : a < 2 ^ 31 := by omega) (hb : b < 2 ^ 31 := by omega) : (¬ x = y → A) ∧ (x = y → B) := ⟨(pk_eq a b g f hx hy ha hb).2, (pk_eq a b g f hx hy ha hb).1⟩
theorem q_neg1 : (-1 : Int32).toInt = -1 := by decide
theorem q_down (c : Nat) : nI (c + 1) + (-1) = nI c := pk_m1 c
def oI (x : Nat) : Int32 := if x = 0 then -1 else nI (x - 1)
def oM (x : Nat) : Int32 := if x = 0 then -9 else nI (x - 1)
theorem oI_s (k : Nat) : oI (k + 1) = nI k := rfl
theorem oM_s (k : Nat) : oM (k + 1) = nI k := rfl
theorem oI_eq : ∀ a, a < 6 → ∀ b, b < 6 → (oI a = oI b ↔ a = b) := by decide +kernel
theorem oM_eq : ∀ a, a < 6 → ∀ b, b < 6 → (oM a = oM b ↔ a = b) := by decide +kernel
/-- a test of a crumb's owner -/
theorem po_eq {x y : Int32} {A B : Prop} (a b : Nat) (f : a = b → A) (g : a ≠ b → B) (hx : x = oI a := by rfl) (hy : y = oI b := by rfl) (ha : a < 6 := by omega) (hb : b < 6 := by omega) : (x = y → A) ∧ (¬ x = y → B) := by
  subst hx; subst hy
  exact ⟨fun h => f ((oI_eq a ha b hb).mp h), fun h => g (fun e => h ((oI_eq a ha b hb).mpr e))⟩
theorem po_ne {x y : Int32} {A B : Prop} (a b : Nat) (f : a ≠ b → A) (g : a = b → B) (hx : x = oI a := by rfl) (hy : y = oI b := by rfl) (ha : a < 6 := by omega) (hb : b < 6 := by omega) : (¬ x = y → A) ∧ (x = y → B) := ⟨(po_eq a b g f hx hy ha hb).2, (po_eq a b g f hx hy ha hb).1⟩
theorem pm_eq {x y : Int32} {A B : Prop} (a b : Nat) (f : a = b → A) (g : a ≠ b → B) (hx : x = oM a := by rfl) (hy : y = oM b := by rfl) (ha : a < 6 := by omega) (hb : b < 6 := by omega) : (x = y → A) ∧ (¬ x = y → B) := by
  subst hx; subst hy
  exact ⟨fun h => f ((oM_eq a ha b hb).mp h), fun h => g (fun e => h ((oM_eq a ha b hb).mpr e))⟩
theorem pm_ne {x y : Int32} {A B : Prop} (a b : Nat) (f : a ≠ b → A) (g : a = b → B) (hx : x = oM a := by rfl) (hy : y = oM b := by rfl) (ha : a < 6 := by omega) (hb : b < 6 := by omega) : (¬ x = y → A) ∧ (x = y → B) := ⟨(pm_eq a b g f hx hy ha hb).2, (pm_eq a b g f hx hy ha hb).1⟩
/-- a sum of d numbers from the place a on -/
def sg (f : Nat → Nat) : Nat → Nat → Nat
  | _, 0 => 0
  | a, d + 1 => f a + sg f (a + 1) d
theorem sg_le {f : Nat → Nat} {k : Nat} : ∀ (d a : Nat), (∀ c, a ≤ c → c < a + d → f c ≤ k) → sg f a d ≤ k * d
  | 0, _, _ => Nat.zero_le _
  | d + 1, a, h => by
    have h1 := h a (Nat.le_refl _) (by omega)
    have h2 := sg_le d (a + 1) (fun c h1 h2 => h c (by omega) (by omega))
    show f a + sg f (a + 1) d ≤ k * (d + 1)
    rw [Nat.mul_succ]
    omega
theorem sg_congr {f g : Nat → Nat} : ∀ (d a : Nat), (∀ c, a ≤ c → c < a + d → f c = g c) → sg f a d = sg g a d
  | 0, _, _ => rfl
  | d + 1, a, h => by
    show f a + sg f (a + 1) d = g a + sg g (a + 1) d
    rw [h a (Nat.le_refl _) (by omega), sg_congr d (a + 1) (fun c h1 h2 => h c (by omega) (by omega))]
theorem sg_add (f : Nat → Nat) : ∀ (d a e : Nat), sg f a (d + e) = sg f a d + sg f (a + d) e
  | 0, a, e => by rw [Nat.zero_add]; show _ = 0 + _; rw [Nat.zero_add, Nat.add_zero]
  | d + 1, a, e => by
    rw [show d + 1 + e = (d + e) + 1 by omega]
    show f a + sg f (a + 1) (d + e) = f a + sg f (a + 1) d + _
    rw [sg_add f d (a + 1) e, show a + 1 + d = a + (d + 1) by omega]
    omega
theorem sg_last (f : Nat → Nat) (a d : Nat) : sg f a (d + 1) = sg f a d + f (a + d) := by
  rw [sg_add f d a 1]
  rfl
/-- f, but x at the place k -/
def up {α : Type} (f : Nat → α) (k : Nat) (x : α) : Nat → α := fun i => if i = k then x else f i
theorem up_s {α : Type} (f : Nat → α) (k : Nat) (x : α) : up f k x k = x := if_pos rfl
theorem up_n {α : Type} {f : Nat → α} {k i : Nat} {x : α} (h : i ≠ k) : up f k x i = f i := if_neg h
/-- a sum at one place less -/
theorem sg_up0 {f g : Nat → Nat} {k : Nat} : ∀ (d a : Nat), a ≤ k → k < a + d → (∀ c, a ≤ c → c < a + d → c ≠ k → g c = f c) → g k = 0 → sg g a d + f k = sg f a d
  | 0, a, h1, h2, _, _ => by omega
  | d + 1, a, h1, h2, h, h0 => by
    show g a + sg g (a + 1) d + f k = f a + sg f (a + 1) d
    by_cases e : a = k
    · subst e
      rw [h0, sg_congr (f := g) (g := f) d (a + 1) (fun c c1 c2 => h c (by omega) (by omega) (by omega))]
      omega
    · have i1 := sg_up0 (f := f) (g := g) (k := k) d (a + 1) (by omega) (by omega) (fun c c1 c2 c3 => h c (by omega) (by omega) c3) h0
      rw [h a (Nat.le_refl _) (by omega) e]
      omega
def okO (n : Nat) (o : Nat → Nat) : Prop := ∀ c, c < 24 → o c ≤ n
def okV (v : Nat → Nat → Nat) : Prop := ∀ g c, g < 4 → c < 24 → v g c ≤ 9
def rW (o : Nat → Nat) (cw : Nat → Int32) : Prop := ∀ c, c < 24 → cw c = oI (o c)
def rV (v : Nat → Nat → Nat) (cV : Nat → Nat → Int32) : Prop := ∀ g c, g < 4 → c < 24 → cV g c = nI (v g c)
def mO (o : Nat → Nat) (R : Nat → Int32) : Prop := ∀ c, c < 24 → R (1 + c) = oM (o c)
def mV (v : Nat → Nat → Nat) (R : Nat → Int32) : Prop := ∀ g c, g < 4 → c < 24 → R (25 + 24 * g + c) = nI (v g c)
/-- what an owner's crumbs (h: 0 the table) from a on are worth to the guest g -/
def wo (v : Nat → Nat → Nat) (o : Nat → Nat) (g h : Nat) : Nat → Nat := fun c => if o c = h then v g c else 0
def Wo (v : Nat → Nat → Nat) (o : Nat → Nat) (g h : Nat) : Nat := sg (wo v o g h) 0 24
def To (v : Nat → Nat → Nat) (g : Nat) : Nat := sg (v g) 0 24
def En (v : Nat → Nat → Nat) (o : Nat → Nat) (g k : Nat) : Nat := Wo v o g (k + 1) - Wo v o g (g + 1)
theorem wo_le {v : Nat → Nat → Nat} {o : Nat → Nat} {g h c : Nat} (hv : okV v) (hg : g < 4) (hc : c < 24) : wo v o g h c ≤ 9 := by
  unfold wo
  split
  · exact hv g c hg hc
  · omega
theorem Wo_le {v : Nat → Nat → Nat} {o : Nat → Nat} {g h : Nat} (hv : okV v) (hg : g < 4) : Wo v o g h ≤ 216 := by
  have := sg_le (f := wo v o g h) (k := 9) 24 0 (fun c _ h2 => wo_le hv hg (by omega))
  exact this
theorem sgv_le {v : Nat → Nat → Nat} {g : Nat} (hv : okV v) (hg : g < 4) {a d : Nat} (h : a + d ≤ 24) : sg (v g) a d ≤ 216 := by
  have := sg_le (f := v g) (k := 9) d a (fun c _ h2 => hv g c hg (by omega))
  omega
theorem To_le {v : Nat → Nat → Nat} {g : Nat} (hv : okV v) (hg : g < 4) : To v g ≤ 216 := sgv_le hv hg (by omega)
theorem ix_o (c : Nat) : (1 : Int32) + nI c = nI (1 + c) := nI_add 1 c
theorem ix_v (g c : Nat) : (25 : Int32) + (24 : Int32) * nI g + nI c = nI (25 + 24 * g + c) := by
  show nI 25 + nI 24 * nI g + nI c = _
  rw [pk_mul, nI_add, nI_add]
theorem nb0 : narrow .boolean (.int 0) = .int 0 := rfl
theorem nb1 : narrow .boolean (.int 1) = .int 1 := rfl
/-- 1 or 0 -/
def bI (b : Bool) : Int32 := if b then 1 else 0
theorem nbb (b : Bool) : narrow .boolean (.int (bI b)) = .int (bI b) := by cases b <;> rfl
theorem pb_eq {b : Bool} {A B : Prop} (f : b = false → A) (g : b = true → B) : (bI b = 0 → A) ∧ (¬ bI b = 0 → B) := by
  cases b
  · exact ⟨fun _ => f rfl, fun h => absurd rfl h⟩
  · exact ⟨fun h => absurd h (by decide), fun _ => g rfl⟩
theorem pb_ne {b : Bool} {A B : Prop} (f : b = true → A) (g : b = false → B) : (¬ bI b = 0 → A) ∧ (bI b = 0 → B) := ⟨(pb_eq g f).2, (pb_eq g f).1⟩
