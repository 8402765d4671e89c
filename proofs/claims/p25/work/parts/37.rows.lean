/-! rows of different guests: the class's Row -/
/-- the bits of the guests of a row -/
def mk' : List Nat → Nat → Nat
  | [], t => t
  | g :: l, t => mk' l (t ||| 2 ^ g)
def ffr (n t : Nat) : Nat → Nat → Nat
  | 0, _ => n
  | d + 1, g => if t / 2 ^ g % 2 = 0 then g else ffr n t d (g + 1)
/-- the smallest guest from least on whose bit isn't set; n if there is none -/
def ff (n t least : Nat) : Nat := ffr n t (n - least) least
def fillN (n : Nat) : Nat → List Nat → List Nat
  | 0, l => l
  | d + 1, l => fillN n d (l ++ [ff n (mk' l 0) 0])
/-- the next row that differs at the place i or ahead of it (i + 1 places to try) -/
def advr (n s : Nat) (l : List Nat) : Nat → Option (List Nat)
  | 0 => none
  | i + 1 => if ff n (mk' (l.take i) 0) (l.getD i 0 + 1) < n then some (fillN n (s - (i + 1)) (l.take i ++ [ff n (mk' (l.take i) 0) (l.getD i 0 + 1)])) else advr n s l i
def advN (n s : Nat) (l : List Nat) (p : Nat) : Option (List Nat) := advr n s l (if p + 1 < s then p + 1 else s)
/-- the class's row holds l -/
def rR (l : List Nat) (rT : Nat → Int32) : Prop := ∀ i, i < l.length → rT i = nI (l.getD i 0)
def okR (l : List Nat) : Prop := ∀ i, i < l.length → l.getD i 0 < 5
theorem q_or : ∀ t, t < 32 → ∀ g, g < 5 → nI t ||| nI (2 ^ g) = nI (t ||| 2 ^ g) ∧ t ||| 2 ^ g < 32 := by decide +kernel
theorem q_bit : ∀ t, t < 32 → ∀ g, g < 5 → (nI t >>> (nI g &&& 31)) &&& 1 = nI (t / 2 ^ g % 2) := by decide +kernel
theorem mk_app (l : List Nat) (g : Nat) : ∀ t, mk' (l ++ [g]) t = mk' l t ||| 2 ^ g := by
  induction l with
  | nil => intro t; rfl
  | cons a l ih => intro t; exact ih _
theorem ffr_le {n t : Nat} : ∀ d g, ffr n t d g ≤ n ∨ ffr n t d g < g + d
  | 0, _ => Or.inl (Nat.le_refl _)
  | d + 1, g => by
    unfold ffr
    split
    · exact Or.inr (by omega)
    · rcases ffr_le (n := n) (t := t) d (g + 1) with h | h
      · exact Or.inl h
      · exact Or.inr (by omega)
theorem ff_le {n t least : Nat} : ff n t least ≤ n := by
  unfold ff
  rcases ffr_le (n := n) (t := t) (n - least) least with h | h
  · exact h
  · by_cases q : least ≤ n
    · omega
    · rw [show n - least = 0 by omega]
      exact Nat.le_refl _
theorem take_getD {l : List Nat} {i j : Nat} (h : j < i) : (l.take i).getD j 0 = l.getD j 0 := by
  simp only [List.getD_eq_getElem?_getD, List.getElem?_take, h, if_true]
theorem w_firstFree {rT : Nat → Int32} {l : List Nat} {n least : Nat} {Z : Int32 → Prop} (hn : n ≤ 4) (hl4 : l.length ≤ 4) (hl : rR l rT) (ok : okR l) (hz : Z (nI (ff n (mk' l 0) least))) (hle : least < 100) : Wp_X4_firstFree rT (nI n) (nI l.length) (nI least) Z := by
  have second : ∀ t, t < 32 → ∀ d g, (d = n - g) → Z (nI (ffr n t d g)) → g < 200 → Wp_X4_firstFree_32 rT (nI n) (nI l.length) (nI least) Z (nI t) (nI g) := by
    intro t ht d
    induction d with
    | zero =>
      intro g hgd hz hg
      refine F_X4_firstFree_32 _ _ _ _ _ _ _ ?_
      exact pk_le n g (fun _ => hz) (fun q => absurd q (by omega))
    | succ d ih =>
      intro g hgd hz hg
      refine F_X4_firstFree_32 _ _ _ _ _ _ _ ?_
      refine pk_le n g (fun q => absurd q (by omega)) (fun _ => ?_)
      rw [q_bit t ht g (by omega)]
      unfold ffr at hz
      have hm := Nat.mod_lt (t / 2 ^ g) (show 2 > 0 by omega)
      refine pq_ne (t / 2 ^ g % 2) 0 (fun q => ?_) (fun q => ?_)
      · rw [if_neg q] at hz
        rw [nI_1]
        exact ih (g + 1) (by omega) hz (by omega)
      · rw [if_pos q] at hz
        exact hz
  have first : ∀ d i t, i + d = l.length → t < 32 → mk' (l.drop i) t = mk' l 0 → Wp_X4_firstFree_5 rT (nI n) (nI l.length) (nI least) Z (nI t) (nI i) := by
    intro d
    induction d with
    | zero =>
      intro i t hid ht hm
      refine F_X4_firstFree_5 _ _ _ _ _ _ _ ?_
      refine pk_le l.length i (fun _ => ?_) (fun q => absurd q (by omega))
      have e : l.drop i = [] := List.drop_eq_nil_iff.mpr (by omega)
      rw [e] at hm
      have hm : t = mk' l 0 := hm
      subst hm
      exact second _ ht (n - least) least rfl hz (by omega)
    | succ d ih =>
      intro i t hid ht hm
      refine F_X4_firstFree_5 _ _ _ _ _ _ _ ?_
      refine pk_le l.length i (fun q => absurd q (by omega)) (fun _ => ⟨q_in (by omega), ?_⟩)
      have hi : i < l.length := by omega
      have h5 := ok i hi
      rw [q_cl i, hl i hi, q_shl _ h5]
      have ho := q_or t ht _ h5
      rw [ho.1, nI_1]
      refine ih (i + 1) _ (by omega) ho.2 ?_
      rw [List.drop_eq_getElem_cons hi] at hm
      have e : l.getD i 0 = l[i] := by rw [List.getD_eq_getElem?_getD, List.getElem?_eq_getElem hi]; rfl
      rw [e]
      exact hm
  exact first l.length 0 0 (by omega) (by omega) rfl
theorem fillN_len (n : Nat) : ∀ d l, (fillN n d l).length = l.length + d
  | 0, l => rfl
  | d + 1, l => by
    unfold fillN
    rw [fillN_len n d, List.length_append]
    simp
    omega
theorem rR_snoc {l : List Nat} {rT : Nat → Int32} {g : Nat} (h : rR l rT) : rR (l ++ [g]) (upd rT l.length (nI g)) := by
  intro i hi
  rw [List.length_append, List.length_singleton] at hi
  by_cases e : i = l.length
  · subst e
    rw [pk_us, List.getD_eq_getElem?_getD, List.getElem?_append_right (Nat.le_refl _), Nat.sub_self]
    rfl
  · rw [pk_un e, h i (by omega), List.getD_eq_getElem?_getD, List.getD_eq_getElem?_getD, List.getElem?_append_left (by omega)]
theorem okR_snoc {l : List Nat} {g : Nat} (h : okR l) (hg : g < 5) : okR (l ++ [g]) := by
  intro i hi
  rw [List.length_append, List.length_singleton] at hi
  by_cases e : i = l.length
  · subst e
    rw [List.getD_eq_getElem?_getD, List.getElem?_append_right (Nat.le_refl _), Nat.sub_self]
    exact hg
  · rw [List.getD_eq_getElem?_getD, List.getElem?_append_left (by omega), ← List.getD_eq_getElem?_getD]
    exact h i (by omega)
theorem w_fill {n s : Nat} {Z : (Nat → Int32) → Prop} (hn : n ≤ 4) (hs : s ≤ 4) : ∀ (d : Nat) (l : List Nat) (rT : Nat → Int32), l.length + d = s → rR l rT → okR l → (∀ rT', rR (fillN n d l) rT' → okR (fillN n d l) → Z rT') → Wp_X4_fill_2 (nI s) (nI n) (nI 0) Z (nI l.length) rT := by
  intro d
  induction d with
  | zero =>
    intro l rT hld hl ok hz
    refine F_X4_fill_2 _ _ _ _ _ _ ?_
    exact pk_le s l.length (fun _ => hz rT hl ok) (fun q => absurd q (by omega))
  | succ d ih =>
    intro l rT hld hl ok hz
    refine F_X4_fill_2 _ _ _ _ _ _ ?_
    refine pk_le s l.length (fun q => absurd q (by omega)) (fun _ => ?_)
    refine w_firstFree (least := 0) hn (by omega) hl ok ⟨q_in (by omega), ?_⟩ (by omega)
    rw [q_cl l.length, nI_1]
    have hle := ff_le (n := n) (t := mk' l 0) (least := 0)
    have := ih (l ++ [ff n (mk' l 0) 0]) _ (by rw [List.length_append, List.length_singleton]; omega) (rR_snoc hl) (okR_snoc ok (by omega)) (by
      unfold fillN at hz
      exact hz)
    rw [List.length_append, List.length_singleton] at this
    exact this
theorem fill_any {rs rg a b : Int32} {Z : (Nat → Int32) → Prop} {x : Int32} {rT : Nat → Int32} (h : Wp_X4_fill_2 rs rg a Z x rT) : Wp_X4_fill_2 rs rg b Z x rT := h
theorem w_begin {n s : Nat} {rT : Nat → Int32} {rs rg : Int32} {Z : (Nat → Int32) → Int32 → Int32 → Prop} (hn : n ≤ 4) (hs : s ≤ 4) (hz : ∀ rT', rR (fillN n s []) rT' → okR (fillN n s []) → Z rT' (nI s) (nI n)) : Wp_X4_begin rT rs rg (nI s) (nI n) Z := by
  unfold Wp_X4_begin
  have e : (if (4 : Int32) < nI s then (4 : Int32) else nI s) = nI s := if_neg (nI_nlt (a := 4) (b := s) hs (by omega))
  rw [e]
  exact w_fill hn hs s [] rT (by simp) (fun i hi => absurd hi (by simp)) (fun i hi => absurd hi (by simp)) (fun rT' h1 h2 => hz rT' h1 h2)
theorem okR_take {l : List Nat} {i : Nat} (h : okR l) : okR (l.take i) := fun j hj => by
  rw [List.length_take] at hj
  rw [take_getD (by omega)]
  exact h j (by omega)
theorem rR_take {l : List Nat} {rT : Nat → Int32} {i : Nat} (h : rR l rT) : rR (l.take i) rT := fun j hj => by
  rw [List.length_take] at hj
  rw [take_getD (by omega)]
  exact h j (by omega)
theorem w_advance {n s p : Nat} {l : List Nat} {rT : Nat → Int32} {Z : Int32 → (Nat → Int32) → Prop} (hn : n ≤ 4) (hs : s ≤ 4) (hs1 : 1 ≤ s) (hp : p < 100) (hls : l.length = s) (hl : rR l rT) (ok : okR l) (h1 : ∀ l' rT', advN n s l p = some l' → rR l' rT' → okR l' → l'.length = s → Z 1 rT') (h0 : advN n s l p = none → Z 0 rT) : Wp_X4_advance rT (nI s) (nI n) (nI p) Z := by
  have key : ∀ i, i ≤ s → (∀ l' rT', advr n s l i = some l' → rR l' rT' → okR l' → l'.length = s → Z 1 rT') → (advr n s l i = none → Z 0 rT) → Wp_X4_advance_11 (nI s) (nI n) (nI p) Z (nI i + (-1)) rT := by
    intro i
    induction i with
    | zero =>
      intro _ h1 h0
      refine F_X4_advance_11 _ _ _ _ _ _ ?_
      exact ⟨fun _ => h0 (by unfold advr; rfl), fun q => absurd (by decide) q⟩
    | succ i ih =>
      intro his h1 h0
      rw [q_down]
      refine F_X4_advance_11 _ _ _ _ _ _ ?_
      refine pk_lt i 0 (fun q => absurd q (by omega)) (fun _ => ⟨q_in (by omega), ?_⟩)
      rw [q_cl i, hl i (by omega), nI_1, nI_1 i]
      have hlen : (l.take i).length = i := by rw [List.length_take]; omega
      have h5 := ok i (by omega)
      have go := w_firstFree (rT := rT) (l := l.take i) (n := n) (least := l.getD i 0 + 1) (Z := fun r_3 => ((nI n ≤ r_3 → Wp_X4_advance_11 (nI s) (nI n) (nI p) Z (nI i + (-1)) rT) ∧ (¬ nI n ≤ r_3 → Wp_X4_fill (upd rT i r_3) (nI s) (nI n) (nI (i + 1)) (fun rT_5 => Z 1 rT_5)))) hn (by omega) (rR_take hl) (okR_take ok) ?_ (by omega)
      · rw [hlen] at go
        exact go
      · have hle := ff_le (n := n) (t := mk' (l.take i) 0) (least := l.getD i 0 + 1)
        unfold advr at h1 h0
        refine pk_le n (ff n (mk' (l.take i) 0) (l.getD i 0 + 1)) (fun q => ?_) (fun q => ?_)
        · rw [if_neg (by omega)] at h1 h0
          exact ih (by omega) h1 h0
        · rw [if_pos q] at h1
          have hfill := w_fill (n := n) (s := s) (Z := fun rT_5 => Z 1 rT_5) hn hs (s - (i + 1)) (l.take i ++ [ff n (mk' (l.take i) 0) (l.getD i 0 + 1)]) (upd rT i (nI (ff n (mk' (l.take i) 0) (l.getD i 0 + 1)))) (by rw [List.length_append, List.length_singleton, hlen]; omega) (by
            have := rR_snoc (g := ff n (mk' (l.take i) 0) (l.getD i 0 + 1)) (rR_take (i := i) hl)
            rw [hlen] at this
            exact this) (okR_snoc (okR_take ok) (by omega)) (fun rT' r1 r2 => h1 _ rT' rfl r1 r2 (by rw [fillN_len, List.length_append, List.length_singleton, hlen]; omega))
          rw [List.length_append, List.length_singleton, hlen] at hfill
          exact fill_any hfill
  unfold Wp_X4_advance
  have e1 : nI s - 1 = nI (s - 1) := pk_sub (b := 1) hs1
  rw [e1]
  unfold advN at h1 h0
  by_cases q : p + 1 < s
  · rw [if_pos q] at h1 h0
    rw [if_neg (nI_nlt (by omega) (by omega))]
    have := key (p + 1) (by omega) h1 h0
    rw [q_down] at this
    exact this
  · rw [if_neg q] at h1 h0
    by_cases q2 : s - 1 < p
    · rw [if_pos (nI_lt q2 (by omega))]
      have := key s (by omega) h1 h0
      rw [show s = (s - 1) + 1 by omega, q_down] at this
      rw [show s - 1 + 1 = s by omega] at this
      exact this
    · rw [if_neg (nI_nlt (by omega) (by omega))]
      have := key s (by omega) h1 h0
      have e2 : s = p + 1 := by omega
      rw [show nI s + (-1) = nI p by rw [e2, q_down]] at this
      exact this
