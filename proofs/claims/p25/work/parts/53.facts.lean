/-! what the actions do to crumbs and values: pure facts -/
theorem xp_up {o : Nat → Nat} {c x y : Nat} (hc : c < 24) (h1 : o c = x) (hxy : x ≠ y) : sg (cn (up o c y) x) 0 24 + 1 = sg (cn o x) 0 24 ∧ sg (cn (up o c y) y) 0 24 = sg (cn o y) 0 24 + 1 := by
  have e1 : cn o x c = 1 := if_pos h1
  have e2 : cn (up o c y) x c = 0 := by unfold cn; rw [up_s, if_neg (fun q => hxy q.symm)]
  have e3 : cn o y c = 0 := by unfold cn; rw [h1, if_neg hxy]
  have e4 : cn (up o c y) y c = 1 := by unfold cn; rw [up_s, if_pos rfl]
  have a1 := sg_up0 (f := cn o x) (g := cn (up o c y) x) (k := c) 24 0 (by omega) (by omega) (fun j _ _ hj => by unfold cn; rw [up_n hj]) e2
  have a2 := sg_up0 (f := cn (up o c y) y) (g := cn o y) (k := c) 24 0 (by omega) (by omega) (fun j _ _ hj => by unfold cn; rw [up_n hj]) e3
  rw [e1] at a1
  rw [e4] at a2
  exact ⟨a1, a2.symm⟩
theorem ho_cnt {h : Nat} (hh : h ≠ 0) : ∀ d c o k, c + d ≤ 24 → sg (cn (ho h d c o k).1 0) 0 24 + (ho h d c o k).2 = sg (cn o 0) 0 24 + k ∧ sg (cn (ho h d c o k).1 h) 0 24 + k = sg (cn o h) 0 24 + (ho h d c o k).2 ∧ (ho h d c o k).2 ≤ k + d
  | 0, _, _, _, _ => ⟨rfl, rfl, Nat.le_refl _⟩
  | d + 1, c, o, k, hcd => by
    unfold ho
    by_cases e : o c = 0
    · rw [if_pos e]
      obtain ⟨a1, a2, a3⟩ := ho_cnt hh d (c + 1) (up o c h) (k + 1) (by omega)
      obtain ⟨b1, b2⟩ := xp_up (o := o) (c := c) (x := 0) (y := h) (by omega) e (fun q => hh q.symm)
      exact ⟨by omega, by omega, by omega⟩
    · rw [if_neg e]
      obtain ⟨a1, a2, a3⟩ := ho_cnt hh d (c + 1) o k (by omega)
      exact ⟨a1, a2, by omega⟩
theorem tb_cnt : ∀ d c o k, c + d ≤ 24 → sg (cn (tb d c o k).1 0) 0 24 + k = sg (cn o 0) 0 24 + (tb d c o k).2
  | 0, _, _, _, _ => rfl
  | d + 1, c, o, k, hcd => by
    unfold tb
    by_cases e : o c = 0
    · rw [if_pos e]
      exact tb_cnt d (c + 1) o k (by omega)
    · rw [if_neg e]
      have a1 := tb_cnt d (c + 1) (up o c 0) (k + 1) (by omega)
      obtain ⟨b1, b2⟩ := xp_up (o := o) (c := c) (x := o c) (y := 0) (by omega) rfl e
      omega
theorem tb_keep : ∀ d c o k j, (j < c ∨ c + d ≤ j) → (tb d c o k).1 j = o j
  | 0, _, _, _, _, _ => rfl
  | d + 1, c, o, k, j, hj => by
    unfold tb
    split
    · exact tb_keep d (c + 1) _ _ j (by omega)
    · rw [tb_keep d (c + 1) _ _ j (by omega), up_n (by omega)]
theorem tb_at : ∀ d c o k j, c ≤ j → j < c + d → (tb d c o k).1 j = 0
  | 0, _, _, _, _, h1, h2 => by omega
  | d + 1, c, o, k, j, h1, h2 => by
    unfold tb
    by_cases e : j = c
    · subst e
      split
      · rename_i q
        rw [tb_keep d (j + 1) _ _ j (by omega)]
        exact q
      · rw [tb_keep d (j + 1) _ _ j (by omega), up_s]
    · split
      · exact tb_at d (c + 1) _ _ j (by omega) (by omega)
      · exact tb_at d (c + 1) _ _ j (by omega) (by omega)
theorem ho_at {h : Nat} : ∀ d c o k j, c ≤ j → j < c + d → o j = 0 → (ho h d c o k).1 j = h
  | 0, _, _, _, _, h1, h2, _ => by omega
  | d + 1, c, o, k, j, h1, h2, h0 => by
    unfold ho
    by_cases e : j = c
    · subst e
      rw [if_pos h0, ho_keep d (j + 1) _ _ j (by omega), up_s]
    · split
      · exact ho_at d (c + 1) _ _ j (by omega) (by omega) (by rw [up_n e]; exact h0)
      · exact ho_at d (c + 1) _ _ j (by omega) (by omega) h0
/-- who had it has it, of those who get nothing -/
theorem ho_same {h y : Nat} (h0 : y ≠ 0) (hy : y ≠ h) : ∀ d c o k j, ((ho h d c o k).1 j = y ↔ o j = y)
  | 0, _, _, _, _ => Iff.rfl
  | d + 1, c, o, k, j => by
    unfold ho
    split
    · rename_i q
      rw [ho_same h0 hy d (c + 1) _ _ j]
      by_cases e : j = c
      · subst e
        rw [up_s, q]
        exact ⟨fun z => absurd z.symm hy, fun z => absurd z.symm h0⟩
      · rw [up_n e]
    · exact ho_same h0 hy d (c + 1) _ _ j
theorem ho_W {v : Nat → Nat → Nat} {g h : Nat} (hh : h ≠ 0) : ∀ d c o k, c + d ≤ 24 → Wo v (ho h d c o k).1 g h = Wo v o g h + sg (wo v o g 0) c d
  | 0, c, o, k, _ => by
    have e : (ho h 0 c o k).1 = o := rfl
    rw [e]
    exact (Nat.add_zero _).symm
  | d + 1, c, o, k, hcd => by
    have es : sg (wo v o g 0) c (d + 1) = wo v o g 0 c + sg (wo v o g 0) (c + 1) d := rfl
    unfold ho
    by_cases e : o c = 0
    · rw [if_pos e, ho_W hh d (c + 1) (up o c h) (k + 1) (by omega)]
      have e1 : wo v o g 0 c = v g c := if_pos e
      have e2 : sg (wo v (up o c h) g 0) (c + 1) d = sg (wo v o g 0) (c + 1) d := sg_congr d (c + 1) (fun j j1 _ => by unfold wo; rw [up_n (by omega)])
      have e3 : wo v o g h c = 0 := if_neg (by rw [e]; exact fun q => hh q.symm)
      have e4 : wo v (up o c h) g h c = v g c := by unfold wo; rw [up_s, if_pos rfl]
      have a2 := sg_up0 (f := wo v (up o c h) g h) (g := wo v o g h) (k := c) 24 0 (by omega) (by omega) (fun j _ _ hj => by unfold wo; rw [up_n hj]) e3
      rw [e4] at a2
      have a2 : Wo v o g h + v g c = Wo v (up o c h) g h := a2
      omega
    · rw [if_neg e, ho_W hh d (c + 1) o k (by omega)]
      have e1 : wo v o g 0 c = 0 := if_neg e
      omega
theorem xp_W {v : Nat → Nat → Nat} {o o' : Nat → Nat} {g y : Nat} (h : ∀ j, j < 24 → (o' j = y ↔ o j = y)) : Wo v o' g y = Wo v o g y := by
  refine sg_congr 24 0 (fun j _ hj => ?_)
  unfold wo
  by_cases e : o j = y
  · rw [if_pos e, if_pos ((h j (by omega)).mpr e)]
  · rw [if_neg e, if_neg (fun q => e ((h j (by omega)).mp q))]
theorem xp_C {o o' : Nat → Nat} {y : Nat} (h : ∀ j, j < 24 → (o' j = y ↔ o j = y)) : sg (cn o' y) 0 24 = sg (cn o y) 0 24 := by
  refine sg_congr 24 0 (fun j _ hj => ?_)
  unfold cn
  by_cases e : o j = y
  · rw [if_pos e, if_pos ((h j (by omega)).mpr e)]
  · rw [if_neg e, if_neg (fun q => e ((h j (by omega)).mp q))]
/-- all crumbs are on the table or somebody's -/
theorem sg_swap (f : Nat → Nat → Nat) : ∀ (d a e b : Nat), sg (fun i => sg (f i) b e) a d = sg (fun j => sg (fun i => f i j) a d) b e
  | 0, a, e, b => by
    have : ∀ e b, sg (fun j => sg (fun i => f i j) a 0) b e = 0 := by
      intro e
      induction e with
      | zero => intro b; rfl
      | succ e ih => intro b; show 0 + _ = 0; rw [ih]
    rw [this]; rfl
  | d + 1, a, e, b => by
    show sg (f a) b e + sg (fun i => sg (f i) b e) (a + 1) d = _
    rw [sg_swap f d (a + 1) e b]
    have : ∀ e b, sg (f a) b e + sg (fun j => sg (fun i => f i j) (a + 1) d) b e = sg (fun j => sg (fun i => f i j) a (d + 1)) b e := by
      intro e
      induction e with
      | zero => intro b; rfl
      | succ e ih =>
        intro b
        show f a b + sg (f a) (b + 1) e + (sg (fun i => f i b) (a + 1) d + sg (fun j => sg (fun i => f i j) (a + 1) d) (b + 1) e) = (f a b + sg (fun i => f i b) (a + 1) d) + sg (fun j => sg (fun i => f i j) a (d + 1)) (b + 1) e
        rw [← ih (b + 1)]
        omega
    exact this e b
theorem sg_one {x : Nat} : ∀ d a, a ≤ x → x < a + d → sg (fun i => if x = i then 1 else 0) a d = 1
  | 0, a, h1, h2 => by omega
  | d + 1, a, h1, h2 => by
    show (if x = a then 1 else 0) + sg (fun i => if x = i then 1 else 0) (a + 1) d = 1
    by_cases e : x = a
    · have : sg (fun i => if x = i then 1 else 0) (a + 1) d = 0 := by
        have := sg_le (f := fun i => if x = i then 1 else 0) (k := 0) d (a + 1) (fun c c1 _ => by rw [if_neg (by omega)]; exact Nat.le_refl 0)
        omega
      rw [if_pos e, this]
    · rw [if_neg e, sg_one d (a + 1) (by omega) (by omega)]
theorem crumbs24 {n : Nat} {o : Nat → Nat} (h : okO n o) : sg (fun i => sg (cn o i) 0 24) 0 (n + 1) = 24 := by
  rw [sg_swap (fun i c => cn o i c) (n + 1) 0 24 0]
  have e : ∀ j, 0 ≤ j → j < 0 + 24 → sg (fun i => cn o i j) 0 (n + 1) = (fun _ => 1) j := fun j _ hj => by
    have := h j (by omega)
    exact sg_one (x := o j) (n + 1) 0 (Nat.zero_le _) (by omega)
  rw [sg_congr 24 0 e]
  rfl
theorem none_of {n : Nat} {o : Nat → Nat} (h : okO n o) {y : Nat} (hy : n < y) : sg (cn o y) 0 24 = 0 := by
  have := sg_le (f := cn o y) (k := 0) 24 0 (fun c _ hc => by
    have := h c (by omega)
    unfold cn
    rw [if_neg (by omega)]
    exact Nat.le_refl 0)
  omega
theorem sv_in {g x a d k c : Nat} {v : Nat → Nat → Nat} (h : k = g ∧ a ≤ c ∧ c < a + d) : sv g x a d v k c = x := if_pos h
theorem To_new {n : Nat} {v : Nat → Nat → Nat} : To (sv n 1 0 24 v) n = 24 := by
  have e : ∀ j, 0 ≤ j → j < 0 + 24 → sv n 1 0 24 v n j = (fun _ => 1) j := fun j j1 j2 => sv_in ⟨rfl, j1, j2⟩
  unfold To
  rw [sg_congr 24 0 e]
  rfl
theorem tr_cnt {v : Nat → Nat → Nat} {g k : Nat} : ∀ c o n, c ≤ 24 → sg (cn (tr v g k c o n).1 0) 0 24 + n = sg (cn o 0) 0 24 + (tr v g k c o n).2
  | 0, _, _, _ => rfl
  | c + 1, o, n, hc => by
    unfold tr
    split
    · rename_i q
      have a1 := tr_cnt (v := v) (g := g) (k := k) c (up o c 0) (n + 1) (by omega)
      obtain ⟨b1, b2⟩ := xp_up (o := o) (c := c) (x := g + 1) (y := 0) (by omega) q.1 (by omega)
      omega
    · exact tr_cnt c o n (by omega)
theorem tr_end {v : Nat → Nat → Nat} {g k : Nat} : ∀ c o n, c ≤ 24 → (∀ j, c ≤ j → j < 24 → o j ≠ g + 1) → ¬ Wo v (tr v g k c o n).1 k (k + 1) < Wo v (tr v g k c o n).1 k (g + 1)
  | 0, o, n, _, h => by
    have : Wo v o k (g + 1) = 0 := by
      have := sg_le (f := wo v o k (g + 1)) (k := 0) 24 0 (fun c _ hc => by
        unfold wo
        rw [if_neg (h c (Nat.zero_le _) (by omega))]
        exact Nat.le_refl 0)
      unfold Wo
      omega
    show ¬ Wo v o k (k + 1) < Wo v o k (g + 1)
    omega
  | c + 1, o, n, hc, h => by
    unfold tr
    split
    · refine tr_end c (up o c 0) (n + 1) (by omega) (fun j j1 j2 => ?_)
      by_cases e : j = c
      · subst e; rw [up_s]; omega
      · rw [up_n e]; exact h j (by omega) j2
    · rename_i q
      by_cases e : o c = g + 1
      · have q2 : ¬ Wo v o k (k + 1) < Wo v o k (g + 1) := fun z => q ⟨e, z⟩
        rw [tr_stop c o n q2]
        exact q2
      · refine tr_end c o n (by omega) (fun j j1 j2 => ?_)
        by_cases e2 : j = c
        · subst e2; exact e
        · exact h j (by omega) j2
/-! the mark: sets of guests, who gets what -/
def clr (S g : Nat) : Nat := S - 2 ^ g
theorem clr_w : ∀ S, S < 16 → ∀ x, x < 4 → S / 2 ^ x % 2 = 1 → nI S &&& (((1 : Int32) <<< (nI x &&& 31)) ^^^ (-1)) = nI (clr S x) ∧ clr S x < 16 ∧ pop4 (clr S x) + 1 = pop4 S := by decide +kernel
theorem clr_b : ∀ S, S < 16 → ∀ x, x < 4 → S / 2 ^ x % 2 = 1 → ∀ g, g < 4 → clr S x / 2 ^ g % 2 = if g = x then 0 else S / 2 ^ g % 2 := by decide +kernel
theorem pop_le : ∀ n, n < 5 → ∀ S, S < 16 → S < 2 ^ n → pop4 S ≤ n := by decide +kernel
theorem cl_bit {v : Nat → Nat → Nat} {o : Nat → Nat} {P S a d : Nat} (hv : okV v) (hP : P ≤ 100) (hS : S < 16) (had : a + d ≤ 24) : ∀ e g, g + e ≤ 4 → cl v o (nI P) (nI S) a d e g ≠ 0 → S / 2 ^ (cl v o (nI P) (nI S) a d e g - 1) % 2 = 1 ∧ P * To v (cl v o (nI P) (nI S) a d e g - 1) ≤ 100 * sg (wo v o (cl v o (nI P) (nI S) a d e g - 1) 0) a d := by
  intro e
  induction e with
  | zero => intro g _ h; exact absurd rfl h
  | succ e ih =>
    intro g hg
    unfold cl
    by_cases q : (nI S >>> (nI g &&& 31)) &&& 1 = 1 ∧ ¬ (100 : Int32) * nI (sg (wo v o g 0) a d) < nI P * nI (To v g)
    · rw [if_pos q]
      intro _
      obtain ⟨q1, q2⟩ := q
      rw [q_bit S (by omega) g (by omega)] at q1
      have b1 : S / 2 ^ g % 2 < 2 := Nat.mod_lt _ (by omega)
      have e1 := (nI_eq (b := 1) (by omega) (by omega)).mp q1
      have h1 : sg (wo v o g 0) a d ≤ 216 := by
        have := sg_le (f := wo v o g 0) (k := 9) d a (fun c _ hc => wo_le hv (by omega) (by omega))
        omega
      have h2 := To_le hv (show g < 4 by omega)
      have e2 : (100 : Int32) * nI (sg (wo v o g 0) a d) = nI (100 * sg (wo v o g 0) a d) := pk_mul 100 _
      rw [e2, pk_mul] at q2
      have h3 : P * To v g ≤ 100 * 216 := Nat.mul_le_mul hP h2
      refine ⟨e1, ?_⟩
      show P * To v g ≤ 100 * sg (wo v o g 0) a d
      rcases Nat.lt_or_ge (100 * sg (wo v o g 0) a d) (P * To v g) with z | z
      · exact absurd (nI_lt z (by omega)) q2
      · exact z
    · rw [if_neg q]
      exact ih (g + 1) (by omega)
theorem mv_cnt {v : Nat → Nat → Nat} {n P : Nat} (hn : n ≤ 4) (hv : okV v) (hP : P ≤ 100) : ∀ d c S a k o, c + d = 24 → a ≤ c → S < 16 → (mv v n (nI P) d c (nI S) a k o).2 ≤ k + pop4 S := by
  intro d
  induction d with
  | zero => intro c S a k o _ _ _; exact Nat.le_add_right _ _
  | succ d ih =>
    intro c S a k o hcd hac hS
    unfold mv
    split
    · exact Nat.le_add_right _ _
    · split
      · split
        · exact ih (c + 1) S a k o (by omega) (by omega) hS
        · rename_i q
          obtain ⟨h1, h2⟩ := cl_bit (o := o) hv hP hS (show a + (c + 1 - a) ≤ 24 by omega) n 0 (by omega) q
          have h3 := cl_le (v := v) (o := o) (P := nI P) (set := nI S) (a := a) (d := c + 1 - a) n 0
          obtain ⟨x, hx⟩ : ∃ x, cl v o (nI P) (nI S) a (c + 1 - a) n 0 = x + 1 := ⟨_, (Nat.succ_pred_eq_of_ne_zero q).symm⟩
          rw [hx] at h1 h3 ⊢
          have h1 : S / 2 ^ x % 2 = 1 := h1
          obtain ⟨e1, e2, e3⟩ := clr_w S hS x (by omega) h1
          rw [Nat.add_sub_cancel, e1]
          have := ih (c + 1) (clr S x) (c + 1) (k + 1) (ho (x + 1) (c + 1 - a) a o 0).1 (by omega) (Nat.le_refl _) e2
          omega
      · exact ih (c + 1) S a k o (by omega) (by omega) hS
theorem mv_get {v : Nat → Nat → Nat} {n P g : Nat} (hn : n ≤ 4) (hv : okV v) (hP : P ≤ 100) (hg : g < 4) : ∀ d c S a k o, c + d = 24 → a ≤ c → S < 16 → ((S / 2 ^ g % 2 = 0 → ∀ j, j < 24 → ((mv v n (nI P) d c (nI S) a k o).1 j = g + 1 ↔ o j = g + 1)) ∧ (S / 2 ^ g % 2 = 1 → (∀ j, j < 24 → ((mv v n (nI P) d c (nI S) a k o).1 j = g + 1 ↔ o j = g + 1)) ∨ 100 * Wo v o g (g + 1) + P * To v g ≤ 100 * Wo v (mv v n (nI P) d c (nI S) a k o).1 g (g + 1))) := by
  intro d
  induction d with
  | zero => intro c S a k o _ _ _; exact ⟨fun _ _ _ => Iff.rfl, fun _ => Or.inl (fun _ _ => Iff.rfl)⟩
  | succ d ih =>
    intro c S a k o hcd hac hS
    unfold mv
    split
    · exact ⟨fun _ _ _ => Iff.rfl, fun _ => Or.inl (fun _ _ => Iff.rfl)⟩
    · split
      · split
        · exact ih (c + 1) S a k o (by omega) (by omega) hS
        · rename_i q
          obtain ⟨h1, h2⟩ := cl_bit (o := o) hv hP hS (show a + (c + 1 - a) ≤ 24 by omega) n 0 (by omega) q
          have h3 := cl_le (v := v) (o := o) (P := nI P) (set := nI S) (a := a) (d := c + 1 - a) n 0
          obtain ⟨x, hx⟩ : ∃ x, cl v o (nI P) (nI S) a (c + 1 - a) n 0 = x + 1 := ⟨_, (Nat.succ_pred_eq_of_ne_zero q).symm⟩
          rw [hx] at h1 h2 h3 ⊢
          have h1 : S / 2 ^ x % 2 = 1 := h1
          have h2 : P * To v x ≤ 100 * sg (wo v o x 0) a (c + 1 - a) := h2
          obtain ⟨e1, e2, e3⟩ := clr_w S hS x (by omega) h1
          have eb := clr_b S hS x (by omega) h1 g hg
          rw [Nat.add_sub_cancel, e1]
          obtain ⟨i0, i1⟩ := ih (c + 1) (clr S x) (c + 1) (k + 1) (ho (x + 1) (c + 1 - a) a o 0).1 (by omega) (Nat.le_refl _) e2
          by_cases e : g = x
          · subst e
            rw [if_pos rfl] at eb
            have hs := i0 eb
            refine ⟨fun z => absurd h1 (by omega), fun _ => Or.inr ?_⟩
            rw [xp_W hs, ho_W (by omega) _ _ _ _ (by omega), Nat.mul_add]
            omega
          · rw [if_neg e] at eb
            have hsame := ho_same (h := x + 1) (y := g + 1) (by omega) (by omega) (c + 1 - a) a o 0
            rw [eb] at i0 i1
            refine ⟨fun z j hj => (i0 z j hj).trans (hsame j), fun z => ?_⟩
            rcases i1 z with w | w
            · exact Or.inl (fun j hj => (w j hj).trans (hsame j))
            · refine Or.inr ?_
              rw [xp_W (fun j _ => hsame j)] at w
              exact w
      · exact ih (c + 1) S a k o (by omega) (by omega) hS
/-! the ring that is found: its smallest guest first, its guests different, its envies -/
def gdR (n : Nat) (l : List Nat) : Bool := (List.range l.length).all (fun i => decide (l.getD 0 0 ≤ l.getD i 0) && (decide (i = 0) || decide (l.getD i 0 ≠ l.getD 0 0))) && (decide (sg (fun g => if l.contains g then 1 else 0) 0 n = l.length) && (List.range 6).all (fun x => decide (xo l x = l.getD 0 0 + 1) == decide (x = l.getD 1 0 + 1)))
theorem flt_gd : ∀ n, n < 5 → ∀ s, s < 5 → 2 ≤ s → s ≤ n → (flt n s (4 ^ s) 0).all (gdR n) = true := by decide +kernel
theorem rgA_gd {E : Nat → Nat → Bool} {n : Nat} {l : List Nat} (hn : n ≤ 4) : ∀ d s, 2 ≤ s → s + d ≤ n + 1 → rgA E n d s = some l → gdR n l = true ∧ isR E l = true
  | 0, _, _, _, h => by cases h
  | d + 1, s, h2, hs, h => by
    unfold rgA at h
    split at h
    · rename_i l' e
      cases h
      rw [ck_find E _ _ [] (Lr_flt n (by omega) s (by omega) h2 (by omega)) (fun x hx => by cases hx)] at e
      exact ⟨List.all_eq_true.mp (flt_gd n (by omega) s (by omega) h2 (by omega)) l (List.mem_of_find?_eq_some e), List.find?_some e⟩
    · exact rgA_gd hn d (s + 1) (by omega) (by omega) h
theorem ringA_gd {E : Nat → Nat → Bool} {n : Nat} {l : List Nat} (hn : n ≤ 4) (h : ringA E n = some l) : gdR n l = true ∧ isR E l = true := by
  by_cases e : n = 0
  · subst e; cases h
  · exact rgA_gd hn (n - 1) 2 (by omega) (by omega) h
theorem edg_at {E : Nat → Nat → Bool} {l : List Nat} {s : Nat} : ∀ d i, edg E l s d i = true → ∀ j, i ≤ j → j < i + d → E (l.getD j 0) (l.getD (nx s j) 0) = true
  | 0, i, _, j, h1, h2 => by omega
  | d + 1, i, h, j, h1, h2 => by
    unfold edg at h
    rw [Bool.and_eq_true] at h
    by_cases e : j = i
    · subst e; exact h.1
    · exact edg_at d (i + 1) h.2 j (by omega) (by omega)
theorem ring_told {v : Nat → Nat → Nat} {o : Nat → Nat} {n : Nat} {l : List Nat} (hn : n ≤ 4) (h : ringA (Eo v o) n = some l) : 2 ≤ l.length ∧ l.length ≤ n ∧ (∀ i, i < l.length → l.getD i 0 < n) ∧ (∀ i, i < l.length → l.getD 0 0 ≤ l.getD i 0 ∧ (i ≠ 0 → l.getD i 0 ≠ l.getD 0 0)) ∧ (∀ i, i < l.length → 0 < En v o (l.getD i 0) (l.getD (nx l.length i) 0)) ∧ sg (fun g => if l.contains g then 1 else 0) 0 n = l.length ∧ (∀ x, x < 6 → (xo l x = l.getD 0 0 + 1 ↔ x = l.getD 1 0 + 1)) := by
  obtain ⟨a1, a2, a3⟩ := ringA_len hn h
  obtain ⟨b1, b2⟩ := ringA_gd hn h
  unfold gdR at b1
  rw [Bool.and_eq_true, Bool.and_eq_true] at b1
  obtain ⟨c1, c2, c3⟩ := b1
  rw [← edg_isR _ l a1 (by omega)] at b2
  refine ⟨a1, a2, a3, fun i hi => ?_, fun i hi => ?_, of_decide_eq_true c2, fun x hx => ?_⟩
  · have z := List.all_eq_true.mp c1 i (List.mem_range.mpr hi)
    rw [Bool.and_eq_true, Bool.or_eq_true] at z
    refine ⟨of_decide_eq_true z.1, fun hi0 => ?_⟩
    rcases z.2 with q | q
    · exact absurd (of_decide_eq_true q) hi0
    · exact of_decide_eq_true q
  · have z := edg_at l.length 0 b2 i (Nat.zero_le _) (by omega)
    exact of_decide_eq_true z
  · have z := List.all_eq_true.mp c3 x (List.mem_range.mpr hx)
    have z := beq_iff_eq.mp z
    constructor
    · intro q
      rw [decide_eq_true q] at z
      exact of_decide_eq_true z.symm
    · intro q
      rw [decide_eq_true q] at z
      exact of_decide_eq_true z
theorem sg_mono {f g : Nat → Nat} : ∀ d a, (∀ c, a ≤ c → c < a + d → f c ≤ g c) → sg f a d ≤ sg g a d
  | 0, _, _ => Nat.le_refl _
  | d + 1, a, h => by
    have h1 := h a (Nat.le_refl _) (by omega)
    have h2 := sg_mono d (a + 1) (fun c c1 c2 => h c (by omega) (by omega))
    show f a + sg f (a + 1) d ≤ g a + sg g (a + 1) d
    omega
theorem sg_ge {f : Nat → Nat} {k : Nat} : ∀ d a, a ≤ k → k < a + d → f k ≤ sg f a d
  | 0, a, h1, h2 => by omega
  | d + 1, a, h1, h2 => by
    show f k ≤ f a + sg f (a + 1) d
    by_cases e : k = a
    · subst e; omega
    · have := sg_ge (f := f) (k := k) d (a + 1) (by omega) (by omega)
      omega
/-- as many arrows as the ring has guests, or more -/
theorem ring_ar {v : Nat → Nat → Nat} {o : Nat → Nat} {n : Nat} {l : List Nat} (hn : n ≤ 4) (h : ringA (Eo v o) n = some l) : l.length ≤ ar v o n := by
  obtain ⟨a1, a2, a3, a4, a5, a6, a7⟩ := ring_told hn h
  rw [← a6]
  refine sg_mono n 0 (fun g _ hg => ?_)
  by_cases e : l.contains g = true
  · rw [if_pos e]
    have hm : g ∈ l := List.contains_iff_mem.mp e
    obtain ⟨i, hi, hgi⟩ := List.mem_iff_getElem.mp hm
    have e2 : l.getD i 0 = g := by
      rw [List.getD_eq_getElem?_getD, List.getElem?_eq_getElem hi, hgi]
      rfl
    have b5 := a5 i hi
    rw [e2] at b5
    have hnx : nx l.length i < l.length := by unfold nx; split <;> omega
    have b3 := a3 _ hnx
    generalize l.getD (nx l.length i) 0 = j at b5 b3
    have b6 := sg_ge (f := ar1 v o g) (k := j) n 0 (Nat.zero_le _) (by omega)
    have e3 : ar1 v o g j = 1 := by
      unfold ar1
      rw [if_neg (by omega)]
    rw [e3] at b6
    exact b6
  · rw [if_neg e]
    exact Nat.zero_le _
theorem En_self {v : Nat → Nat → Nat} {o : Nat → Nat} {g : Nat} : En v o g g = 0 := Nat.sub_self _
/-- an exchange gives the first guest what it envied -/
theorem ring_x {v : Nat → Nat → Nat} {o : Nat → Nat} {n : Nat} {l : List Nat} (hn : n ≤ 4) (hok : okO n o) (h : ringA (Eo v o) n = some l) : Wo v (fun c => xo l (o c)) (l.getD 0 0) (l.getD 0 0 + 1) = Wo v o (l.getD 0 0) (l.getD 0 0 + 1) + En v o (l.getD 0 0) (l.getD 1 0) := by
  obtain ⟨a1, a2, a3, a4, a5, a6, a7⟩ := ring_told hn h
  have e1 : Wo v (fun c => xo l (o c)) (l.getD 0 0) (l.getD 0 0 + 1) = Wo v o (l.getD 0 0) (l.getD 1 0 + 1) := by
    refine sg_congr 24 0 (fun c _ hc => ?_)
    have := hok c (by omega)
    have z := a7 (o c) (by omega)
    unfold wo
    by_cases e : o c = l.getD 1 0 + 1
    · rw [if_pos e, if_pos (z.mpr e)]
    · rw [if_neg e, if_neg (fun q => e (z.mp q))]
  have b5 := a5 0 (by omega)
  have e2 : nx l.length 0 = 1 := by unfold nx; rw [if_pos (by omega)]
  rw [e2] at b5
  rw [e1]
  unfold En at b5 ⊢
  omega
/-! shares in lowest terms -/
theorem low_up {W T : Nat} (h : W ≤ T) : W / Nat.gcd W T * T = W * lden W T := by
  unfold lden
  by_cases e : T = 0
  · rw [if_pos e]
    have e2 : W = 0 := by omega
    subst e; subst e2
    rfl
  · rw [if_neg e]
    have g1 := Nat.gcd_dvd_left W T
    have g2 := Nat.gcd_dvd_right W T
    rw [← Nat.mul_div_assoc _ g2, Nat.mul_comm, ← Nat.mul_div_assoc _ g1, Nat.mul_comm]
theorem low_pos {W T : Nat} : 1 ≤ lden W T := by
  unfold lden
  by_cases e : T = 0
  · rw [if_pos e]; exact Nat.le_refl 1
  · rw [if_neg e]
    exact Nat.div_pos (Nat.le_of_dvd (by omega) (Nat.gcd_dvd_right W T)) (Nat.gcd_pos_of_pos_right W (by omega))
theorem low_zero {T : Nat} : 0 / Nat.gcd 0 T = 0 ∧ lden 0 T = 1 := by
  refine ⟨Nat.zero_div _, ?_⟩
  unfold lden
  by_cases e : T = 0
  · rw [if_pos e]
  · rw [if_neg e, Nat.gcd_zero_left, Nat.div_self (by omega)]
theorem low_co {W T d : Nat} (h : W ≤ T) (h2 : 2 ≤ d) (h3 : W / Nat.gcd W T % d = 0) (h4 : lden W T % d = 0) : False := by
  unfold lden at h4
  by_cases e : T = 0
  · rw [if_pos e, Nat.mod_eq_of_lt (by omega)] at h4
    omega
  · rw [if_neg e] at h4
    have hc := Nat.coprime_div_gcd_div_gcd (m := W) (n := T) (Nat.gcd_pos_of_pos_right W (by omega))
    have hd := Nat.dvd_gcd (Nat.dvd_of_mod_eq_zero h3) (Nat.dvd_of_mod_eq_zero h4)
    rw [hc] at hd
    have := Nat.le_of_dvd (by omega) hd
    omega
theorem low_le {W T : Nat} (hT : T ≤ 216) (h : W ≤ T) : W / Nat.gcd W T ≤ 216 ∧ lden W T ≤ 216 := by
  refine ⟨Nat.le_trans (Nat.div_le_self _ _) (by omega), ?_⟩
  unfold lden
  split
  · omega
  · exact Nat.le_trans (Nat.div_le_self _ _) (by omega)
/-! the best division's spans -/
theorem MC_pos : ∀ n, n < 5 → 2 ≤ n → (MC n).all (fun c => decide (1 ≤ c.getD (n - 1) 0)) = true := by decide +kernel
def inF (n : Nat) (F : FS) : Prop := F.2.1 = 0 ∨ (F.1 ≤ 216 ∧ F.2.1 ≤ 216 ∧ F.2.2.1 ≤ 5 ∧ F.2.2.2 ∈ MC n)
theorem stF_in {v : Nat → Nat → Nat} {n : Nat} {c l : List Nat} {F : FS} (hn1 : 1 ≤ n) (hn : n ≤ 4) (hv : okV v) (hc : c ∈ MC n) (hl : ∀ i, i < n → l.getD i 0 < n) (h : inF n F) : inF n (stF v n c F l) := by
  unfold stF
  split
  · exact h
  · have hlt := hl 0 (by omega)
    obtain ⟨x, y, e⟩ : ∃ x y, mn v n c l = (x, y) := ⟨_, _, rfl⟩
    obtain ⟨b1, b2, b3⟩ := mn_bd hn1 hn hv (MC_mem hn1 hn c hc) hl x y e
    rw [e]
    refine Or.inr ⟨b1, b3, ?_, hc⟩
    show l.getD 0 0 ≤ 5
    omega
theorem foldP_in {v : Nat → Nat → Nat} {n : Nat} {c : List Nat} (hn1 : 1 ≤ n) (hn : n ≤ 4) (hv : okV v) (hc : c ∈ MC n) : ∀ (L : List (List Nat)) (F : FS), (∀ x, x ∈ L → ∀ i, i < n → x.getD i 0 < n) → inF n F → inF n (L.foldl (stF v n c) F)
  | [], _, _, h => h
  | l :: L, F, hx, h => foldP_in hn1 hn hv hc L _ (fun x hh => hx x (List.mem_cons_of_mem _ hh)) (stF_in hn1 hn hv hc (hx l List.mem_cons_self) h)
theorem foldC_in {v : Nat → Nat → Nat} {n : Nat} (hn1 : 1 ≤ n) (hn : n ≤ 4) (hv : okV v) : ∀ (C : List (List Nat)) (F : FS), (∀ x, x ∈ C → x ∈ MC n) → inF n F → inF n (C.foldl (cF v n) F)
  | [], _, _, h => h
  | c :: C, F, hx, h => foldC_in hn1 hn hv C _ (fun x hh => hx x (List.mem_cons_of_mem _ hh)) (foldP_in hn1 hn hv (hx c List.mem_cons_self) _ _ (fun x hh => (pck_mem _ (Pn_pck n (by omega) hn1) x hh).2) h)
theorem FF_inF {v : Nat → Nat → Nat} {n : Nat} (hn1 : 1 ≤ n) (hn : n ≤ 4) (hv : okV v) : (FF v n).1 ≤ 216 ∧ (FF v n).2.1 ≤ 216 ∧ (FF v n).2.2.1 ≤ 5 ∧ (FF v n).2.2.2 ∈ MC n := by
  have h : inF n (FF v n) := foldC_in hn1 hn hv (MC n) _ (fun _ h => h) (Or.inl rfl)
  rcases h with h | h
  · exact absurd h (FF_gd hn1 hn hv).1
  · exact h
theorem FF_in {v : Nat → Nat → Nat} {n : Nat} (hn1 : 1 ≤ n) (hn : n ≤ 4) (hv : okV v) : (FF v n).2.2.1 ≤ 5 ∧ (FF v n).2.2.2 ∈ MC n := (FF_inF hn1 hn hv).2.2
theorem FF_bd {v : Nat → Nat → Nat} {n : Nat} (hn1 : 1 ≤ n) (hn : n ≤ 4) (hv : okV v) : (FF v n).1 ≤ 216 ∧ (FF v n).2.1 ≤ 216 := ⟨(FF_inF hn1 hn hv).1, (FF_inF hn1 hn hv).2.1⟩
theorem FF_cut {v : Nat → Nat → Nat} {n : Nat} (h2 : 2 ≤ n) (hn : n ≤ 4) (hv : okV v) : 1 ≤ (FF v n).2.2.2.getD (n - 1) 0 ∧ (FF v n).2.2.2.getD (n - 1) 0 ≤ 24 := by
  obtain ⟨a1, a2⟩ := FF_in (v := v) (by omega) hn hv
  have a3 := (okC_of (MC_mem (by omega) hn _ a2)).2.2.2.2 (n - 1)
  exact ⟨of_decide_eq_true (List.all_eq_true.mp (MC_pos n (by omega) h2) _ a2), a3⟩
