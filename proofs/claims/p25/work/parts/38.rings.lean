/-! rings of the envy graph: E g k says whether g envies k -/
def isR (E : Nat → Nat → Bool) : List Nat → Bool
  | [a, b] => E a b && E b a
  | [a, b, c] => E a b && (E b c && E c a)
  | [a, b, c, d] => E a b && (E b c && (E c d && E d a))
  | _ => false
/-- turned, the smallest guest first -/
def can : List Nat → List Nat
  | [a, b] => if b < a then [b, a] else [a, b]
  | [a, b, c] => if b < a ∧ b < c then [b, c, a] else if c < a ∧ c < b then [c, a, b] else [a, b, c]
  | [a, b, c, d] => if b < a ∧ b < c ∧ b < d then [b, c, d, a] else if c < a ∧ c < b ∧ c < d then [c, d, a, b] else if d < a ∧ d < b ∧ d < c then [d, a, b, c] else [a, b, c, d]
  | l => l
theorem isR_can (E : Nat → Nat → Bool) (l : List Nat) : isR E (can l) = isR E l := by
  match l with
  | [] => rfl
  | [a] => rfl
  | [a, b] =>
    show isR E (if b < a then [b, a] else [a, b]) = _
    split
    · show (E b a && E a b) = (E a b && E b a)
      exact Bool.and_comm _ _
    · rfl
  | [a, b, c] =>
    show isR E (if b < a ∧ b < c then [b, c, a] else if c < a ∧ c < b then [c, a, b] else [a, b, c]) = _
    split
    · show (E b c && (E c a && E a b)) = (E a b && (E b c && E c a))
      cases E a b <;> cases E b c <;> cases E c a <;> rfl
    · split
      · show (E c a && (E a b && E b c)) = (E a b && (E b c && E c a))
        cases E a b <;> cases E b c <;> cases E c a <;> rfl
      · rfl
  | [a, b, c, d] =>
    show isR E (if b < a ∧ b < c ∧ b < d then [b, c, d, a] else if c < a ∧ c < b ∧ c < d then [c, d, a, b] else if d < a ∧ d < b ∧ d < c then [d, a, b, c] else [a, b, c, d]) = _
    split
    · show (E b c && (E c d && (E d a && E a b))) = (E a b && (E b c && (E c d && E d a)))
      cases E a b <;> cases E b c <;> cases E c d <;> cases E d a <;> rfl
    · split
      · show (E c d && (E d a && (E a b && E b c))) = (E a b && (E b c && (E c d && E d a)))
        cases E a b <;> cases E b c <;> cases E c d <;> cases E d a <;> rfl
      · split
        · show (E d a && (E a b && (E b c && E c d))) = (E a b && (E b c && (E c d && E d a)))
          cases E a b <;> cases E b c <;> cases E c d <;> cases E d a <;> rfl
        · rfl
  | a :: b :: c :: d :: e :: l => rfl
/-- L's rows with the smallest guest first are Lm, the others come behind their turned ones -/
def ck : List (List Nat) → List (List Nat) → List (List Nat) → Bool
  | _, [], [] => true
  | _, [], _ :: _ => false
  | seen, l :: L, [] => (can l != l) && (seen.contains (can l) && ck (l :: seen) L [])
  | seen, l :: L, m :: Lm => if can l = l then (decide (m = l) && ck (l :: seen) L Lm) else (seen.contains (can l) && ck (l :: seen) L (m :: Lm))
theorem ck_find (E : Nat → Nat → Bool) : ∀ (L Lm seen : List (List Nat)), ck seen L Lm = true → (∀ x, x ∈ seen → isR E x = false) → L.find? (isR E) = Lm.find? (isR E) := by
  intro L
  induction L with
  | nil =>
    intro Lm seen h _
    cases Lm with
    | nil => rfl
    | cons m Lm => cases h
  | cons l L ih =>
    intro Lm seen h hs
    have hnext : isR E l = false → ∀ x, x ∈ l :: seen → isR E x = false := fun hl x hx => by
      rcases List.mem_cons.mp hx with rfl | hx
      · exact hl
      · exact hs x hx
    have hcan : seen.contains (can l) = true → isR E l = false := fun hc => by
      rw [← isR_can]
      exact hs _ (List.contains_iff_mem.mp hc)
    cases Lm with
    | nil =>
      unfold ck at h
      simp only [Bool.and_eq_true] at h
      have hl := hcan h.2.1
      rw [List.find?_cons, hl]
      exact ih [] (l :: seen) h.2.2 (hnext hl)
    | cons m Lm =>
      unfold ck at h
      by_cases e : can l = l
      · rw [if_pos e] at h
        simp only [Bool.and_eq_true, decide_eq_true_eq] at h
        obtain ⟨rfl, h⟩ := h
        rw [List.find?_cons, List.find?_cons]
        cases hl : isR E m with
        | true => rfl
        | false => exact ih Lm (m :: seen) h (hnext hl)
      · rw [if_neg e] at h
        simp only [Bool.and_eq_true] at h
        have hl := hcan h.1
        rw [List.find?_cons, hl]
        exact ih (m :: Lm) (l :: seen) h.2 (hnext hl)
/-- all rows of s of n guests, in their order -/
def itr (n s : Nat) : Nat → List Nat → List (List Nat)
  | 0, _ => []
  | d + 1, l => l :: (match advN n s l (s - 1) with | some l' => itr n s d l' | none => [])
def Lr (n s : Nat) : List (List Nat) := itr n s 30 (fillN n s [])
def chn (n s : Nat) : List (List Nat) → Bool
  | [] => false
  | [l] => advN n s l (s - 1) == none && decide (l.length = s)
  | l :: l' :: t => advN n s l (s - 1) == some l' && (decide (l.length = s) && chn n s (l' :: t))
theorem Lr_chn1 : ∀ n, n < 5 → ∀ s, s < 5 → 2 ≤ s → s ≤ n → chn n s (Lr n s) = true := by decide +kernel
theorem Lr_chn2 : ∀ n, n < 5 → ∀ s, s < 5 → 2 ≤ s → s ≤ n → (Lr n s).length ≤ 24 := by decide +kernel
theorem Lr_chn3 (n s : Nat) : (Lr n s).head? = some (fillN n s []) := rfl
theorem Lr_chn (n : Nat) (hn : n < 5) (s : Nat) (hs : s < 5) (h2 : 2 ≤ s) (h : s ≤ n) : chn n s (Lr n s) = true ∧ (Lr n s).length ≤ 24 ∧ (Lr n s).head? = some (fillN n s []) := ⟨Lr_chn1 n hn s hs h2 h, Lr_chn2 n hn s hs h2 h, Lr_chn3 n s⟩
/-- a number's s digits to the base four -/
def dg (s code : Nat) : List Nat := (List.range s).map (fun k => code / 4 ^ (s - 1 - k) % 4)
def pop4 (t : Nat) : Nat := t % 2 + (t / 2 % 2 + (t / 4 % 2 + t / 8 % 2))
/-- the reference's test of a row, but for the envies -/
def stat (n s : Nat) (l : List Nat) : Bool := l.all (fun x => decide (x < n) && decide (l.headD 0 ≤ x)) && decide (pop4 (mk' l 0) = s)
def flt (n s : Nat) : Nat → Nat → List (List Nat)
  | 0, _ => []
  | d + 1, c => if stat n s (dg s c) then dg s c :: flt n s d (c + 1) else flt n s d (c + 1)
theorem Lr_flt : ∀ n, n < 5 → ∀ s, s < 5 → 2 ≤ s → s ≤ n → ck [] (Lr n s) (flt n s (4 ^ s) 0) = true := by decide +kernel
/-- the ring: of the sizes from s on, d of them -/
def rgA (E : Nat → Nat → Bool) (n : Nat) : Nat → Nat → Option (List Nat)
  | 0, _ => none
  | d + 1, s => match (Lr n s).find? (isR E) with | some l => some l | none => rgA E n d (s + 1)
def ringA (E : Nat → Nat → Bool) (n : Nat) : Option (List Nat) := rgA E n (n - 1) 2
/-- the bits of whom a guest envies, of the guests below k -/
def em (E : Nat → Nat → Bool) (g : Nat) : Nat → Nat
  | 0 => 0
  | k + 1 => if E g k then em E g k ||| 2 ^ k else em E g k
theorem em_lt (E : Nat → Nat → Bool) (g : Nat) : ∀ k, k ≤ 4 → em E g k < 16
  | 0, _ => by show 0 < 16; omega
  | k + 1, h => by
    have h1 := em_lt E g k (by omega)
    have h2 : ∀ t, t < 16 → ∀ j, j < 4 → t ||| 2 ^ j < 16 := by decide +kernel
    unfold em
    split
    · exact h2 _ h1 k (by omega)
    · exact h1
theorem em_bit (E : Nat → Nat → Bool) (g : Nat) : ∀ n, n ≤ 4 → ∀ k, k < n → em E g n / 2 ^ k % 2 = if E g k then 1 else 0 := by
  intro n hn k hk
  rcases (show n = 1 ∨ n = 2 ∨ n = 3 ∨ n = 4 by omega) with rfl | rfl | rfl | rfl
  · rcases (show k = 0 by omega) with rfl
    cases h0 : E g 0 <;> simp [em, h0]
  · rcases (show k = 0 ∨ k = 1 by omega) with rfl | rfl <;> cases h0 : E g 0 <;> cases h1 : E g 1 <;> simp [em, h0, h1]
  · rcases (show k = 0 ∨ k = 1 ∨ k = 2 by omega) with rfl | rfl | rfl <;> cases h0 : E g 0 <;> cases h1 : E g 1 <;> cases h2 : E g 2 <;> simp [em, h0, h1, h2]
  · rcases (show k = 0 ∨ k = 1 ∨ k = 2 ∨ k = 3 by omega) with rfl | rfl | rfl | rfl <;> cases h0 : E g 0 <;> cases h1 : E g 1 <;> cases h2 : E g 2 <;> cases h3 : E g 3 <;> simp [em, h0, h1, h2, h3]
def Eo (v : Nat → Nat → Nat) (o : Nat → Nat) : Nat → Nat → Bool := fun g k => decide (0 < En v o g k)
theorem w_drawArrows {nE cw : Nat → Int32} {cV : Nat → Nat → Int32} {v : Nat → Nat → Nat} {o : Nat → Nat} {n : Nat} {Z : (Nat → Int32) → Prop} (hn : n ≤ 4) (hok : okO n o) (hv : okV v) (hW : rW o cw) (hV : rV v cV) (hz : ∀ nE', (∀ g, g < n → nE' g = nI (em (Eo v o) g n)) → Z nE') : Wp_X3_drawArrows nE (nI n) cw cV Z := by
  have inner : ∀ d g k nE', k + d = n → g < n → nE' g = nI (em (Eo v o) g k) → (∀ j, j < g → nE' j = nI (em (Eo v o) j n)) → (∀ nE2, (∀ j, j < g + 1 → nE2 j = nI (em (Eo v o) j n)) → Wp_X3_drawArrows_2 (nI n) cw cV Z (nI (g + 1)) nE2) → Wp_X3_drawArrows_19 (nI n) cw cV Z (nI g) (nI k) nE' := by
    intro d
    induction d with
    | zero =>
      intro g k nE' hkd hg he hb hnext
      refine F_X3_drawArrows_19 _ _ _ _ _ _ _ ?_
      refine pk_le n k (fun _ => ?_) (fun q => absurd q (by omega))
      rw [nI_1]
      refine hnext nE' (fun j hj => ?_)
      have hk : k = n := by omega
      subst hk
      by_cases e : j = g
      · subst e; exact he
      · exact hb j (by omega)
    | succ d ih =>
      intro g k nE' hkd hg he hb hnext
      refine F_X3_drawArrows_19 _ _ _ _ _ _ _ ?_
      refine pk_le n k (fun q => absurd q (by omega)) (fun _ => ?_)
      refine w_envyOf hn hok hv (by omega) (by omega) hW hV ?_
      have b1 := En_le (o := o) (k := k) hv (show g < 4 by omega)
      refine pk_le (En v o g k) 0 (fun q => ?_) (fun q => ⟨q_in (show g < 4 by omega), ?_⟩)
      · rw [nI_1]
        refine ih g (k + 1) nE' (by omega) hg ?_ hb hnext
        have e : Eo v o g k = false := decide_eq_false (by omega)
        have e2 : em (Eo v o) g (k + 1) = em (Eo v o) g k := by
          show (if Eo v o g k then _ else _) = _
          rw [e]; rfl
        rw [e2]; exact he
      · rw [q_cl g, q_shl k (by omega), nI_1, he]
        have ht := em_lt (Eo v o) g k (by omega)
        rw [(q_or _ (by omega) k (by omega)).1]
        refine ih g (k + 1) _ (by omega) hg ?_ (fun j hj => by rw [pk_un (by omega)]; exact hb j hj) hnext
        have e : Eo v o g k = true := decide_eq_true (by omega)
        have e2 : em (Eo v o) g (k + 1) = em (Eo v o) g k ||| 2 ^ k := by
          show (if Eo v o g k then _ else _) = _
          rw [e]; rfl
        rw [e2, pk_us]
  have outer : ∀ d g nE', g + d = n → (∀ j, j < g → nE' j = nI (em (Eo v o) j n)) → Wp_X3_drawArrows_2 (nI n) cw cV Z (nI g) nE' := by
    intro d
    induction d with
    | zero =>
      intro g nE' hgd hb
      refine F_X3_drawArrows_2 _ _ _ _ _ _ ?_
      exact pk_le n g (fun _ => hz nE' (fun j hj => hb j (by omega))) (fun q => absurd q (by omega))
    | succ d ih =>
      intro g nE' hgd hb
      refine F_X3_drawArrows_2 _ _ _ _ _ _ ?_
      refine pk_le n g (fun q => absurd q (by omega)) (fun _ => ⟨q_in (show g < 4 by omega), ?_⟩)
      rw [q_cl g]
      exact inner n g 0 _ (by omega) (by omega) pk_us (fun j hj => by rw [pk_un (by omega)]; exact hb j hj) (fun nE2 h2 => ih (g + 1) nE2 (by omega) h2)
  exact outer n 0 nE (by omega) (fun j hj => absurd hj (by omega))
/-- the next place of a ring of s -/
def nx (s i : Nat) : Nat := if i + 1 < s then i + 1 else 0
/-- the edges from the place i on (d of them) -/
def edg (E : Nat → Nat → Bool) (l : List Nat) (s : Nat) : Nat → Nat → Bool
  | 0, _ => true
  | d + 1, i => E (l.getD i 0) (l.getD (nx s i) 0) && edg E l s d (i + 1)
theorem edg_isR (E : Nat → Nat → Bool) (l : List Nat) (h2 : 2 ≤ l.length) (h4 : l.length ≤ 4) : edg E l l.length l.length 0 = isR E l := by
  match l, h2, h4 with
  | [a, b], _, _ => simp [edg, nx, isR]
  | [a, b, c], _, _ => simp [edg, nx, isR]
  | [a, b, c, d], _, _ => simp [edg, nx, isR]
  | a :: b :: c :: d :: e :: l, _, h => simp at h
theorem w_isRing {nE rT : Nat → Int32} {E : Nat → Nat → Bool} {n : Nat} {l : List Nat} {Z : Int32 → Prop} (hn : n ≤ 4) (hE : ∀ g, g < n → nE g = nI (em E g n)) (h2 : 2 ≤ l.length) (h4 : l.length ≤ 4) (hl : rR l rT) (hln : ∀ i, i < l.length → l.getD i 0 < n) (hz : Z (bI (isR E l))) : Wp_X3_isRing nE rT (nI l.length) Z := by
  rw [← edg_isR E l h2 h4] at hz
  have key : ∀ d i, i + d = l.length → Z (bI (edg E l l.length d i)) → Wp_X3_isRing_2 nE rT (nI l.length) Z (nI i) := by
    intro d
    induction d with
    | zero =>
      intro i hid hz
      refine F_X3_isRing_2 _ _ _ _ _ ?_
      exact pk_le l.length i (fun _ => hz) (fun q => absurd q (by omega))
    | succ d ih =>
      intro i hid hz
      refine F_X3_isRing_2 _ _ _ _ _ ?_
      have hi : i < l.length := by omega
      have hnx : nx l.length i < l.length := by unfold nx; split <;> omega
      have k40 : K_X3_isRing_40 nE rT (nI l.length) Z (Wp_X3_isRing_2 nE rT (nI l.length) Z) (nI i) (nI (nx l.length i)) := by
        unfold K_X3_isRing_40
        have a1 := hln i hi
        have a2 := hln _ hnx
        rw [q_cl i, q_cl (nx l.length i), hl i hi, hl _ hnx, q_cl (l.getD i 0), hE _ a1]
        refine ⟨q_in (by omega), q_in (by omega), q_in (by omega), ?_⟩
        have ht := em_lt E (l.getD i 0) n hn
        rw [q_bit _ (by omega) _ (by omega), em_bit E (l.getD i 0) n hn _ a2]
        unfold edg at hz
        cases he : E (l.getD i 0) (l.getD (nx l.length i) 0) with
        | true =>
          rw [he] at hz
          refine pq_ne 1 0 (fun _ => ?_) (fun q => absurd q (by omega))
          rw [nI_1]
          exact ih (i + 1) (by omega) hz
        | false =>
          rw [he] at hz
          exact pq_ne 0 0 (fun q => absurd rfl q) (fun _ => hz)
      refine pk_le l.length i (fun q => absurd q (by omega)) (fun _ => ?_)
      rw [nI_1]
      unfold nx at k40
      refine pk_le l.length (i + 1) (fun q => ?_) (fun q => ?_)
      · rw [if_neg (by omega)] at k40; exact k40
      · rw [if_pos q] at k40; exact k40
  exact key l.length 0 (by omega) hz
theorem chn_rows (n s : Nat) : ∀ L, chn n s L = true → ∀ l, l ∈ L → l.length = s
  | [], h, _, _ => by cases h
  | [l], h, x, hx => by
    unfold chn at h
    simp only [Bool.and_eq_true, decide_eq_true_eq] at h
    rw [List.mem_singleton.mp hx]; exact h.2
  | l :: l' :: t, h, x, hx => by
    unfold chn at h
    simp only [Bool.and_eq_true, decide_eq_true_eq] at h
    rcases List.mem_cons.mp hx with rfl | hx
    · exact h.2.1
    · exact chn_rows n s (l' :: t) h.2.2 x hx
theorem Lr_lt : ∀ n, n < 5 → ∀ s, s < 5 → 2 ≤ s → s ≤ n → (Lr n s).all (fun l => l.all (fun x => decide (x < n))) = true := by decide +kernel
theorem all_getD {l : List Nat} {n : Nat} (h : l.all (fun x => decide (x < n)) = true) {i : Nat} (hi : i < l.length) : l.getD i 0 < n := by
  have := List.all_eq_true.mp h l[i] (List.getElem_mem hi)
  rw [List.getD_eq_getElem?_getD, List.getElem?_eq_getElem hi]
  exact of_decide_eq_true this
theorem w_find {nE nrT cw : Nat → Int32} {nrs nrg : Int32} {cV : Nat → Nat → Int32} {v : Nat → Nat → Nat} {o : Nat → Nat} {n : Nat} {Z : Int32 → (Nat → Int32) → (Nat → Int32) → Int32 → Int32 → Prop} (hn : n ≤ 4) (hok : okO n o) (hv : okV v) (hW : rW o cw) (hV : rV v cV)
    (h1 : ∀ l nE' rT' rg', ringA (Eo v o) n = some l → rR l rT' → Z (nI l.length) nE' rT' (nI l.length) rg') (h0 : ringA (Eo v o) n = none → ∀ nE' rT' rs' rg', Z 0 nE' rT' rs' rg') : Wp_X3_find nE nrT nrs nrg (nI n) cw cV Z := by
  refine w_drawArrows hn hok hv hW hV (fun nE' hE => ?_)
  have sizes : ∀ d s rT rs rg, s + d = n + 1 → 2 ≤ s → (∀ l, rgA (Eo v o) n d s = some l → ringA (Eo v o) n = some l) → (rgA (Eo v o) n d s = none → ringA (Eo v o) n = none) → Wp_X3_find_7 (nI n) cw cV Z (nI s) nE' rT rs rg := by
    intro d
    induction d with
    | zero =>
      intro s rT rs rg hsd hs2 g1 g0
      refine F_X3_find_7 _ _ _ _ _ _ _ _ _ ?_
      exact pk_lt n s (fun _ => h0 (g0 rfl) _ _ _ _) (fun q => absurd q (by omega))
    | succ d ih =>
      intro s rT rs rg hsd hs2 g1 g0
      refine F_X3_find_7 _ _ _ _ _ _ _ _ _ ?_
      refine pk_lt n s (fun q => absurd q (by omega)) (fun _ => ?_)
      obtain ⟨c1, c2, c3⟩ := Lr_chn n (by omega) s (by omega) hs2 (by omega)
      have c4 := List.all_eq_true.mp (Lr_lt n (by omega) s (by omega) hs2 (by omega))
      refine w_begin hn (by omega) (fun rT' r1 r2 => ?_)
      unfold rgA at g1 g0
      have next : (Lr n s).find? (isR (Eo v o)) = none → ∀ rT2 rs2 rg2, Wp_X3_find_7 (nI n) cw cV Z (nI (s + 1)) nE' rT2 rs2 rg2 := fun hf rT2 rs2 rg2 => by
        rw [hf] at g1 g0
        exact ih (s + 1) rT2 rs2 rg2 (by omega) (by omega) g1 g0
      have rows : ∀ (L : List (List Nat)) (l : List Nat) (c : Nat) (rT2 : Nat → Int32), chn n s (l :: L) = true → (∀ x, x ∈ l :: L → x ∈ Lr n s) → c + (l :: L).length ≤ 1000 → rR l rT2 → okR l → (Lr n s).find? (isR (Eo v o)) = (l :: L).find? (isR (Eo v o)) → Wp_X3_find_32 (nI n) cw cV Z (nI s) 1 (nI c) nE' rT2 (nI s) (nI n) := by
        intro L
        induction L with
        | nil =>
          intro l c rT2 hc hmem hcl hr ok hf
          refine F_X3_find_32 _ _ _ _ _ _ _ _ _ _ _ ?_
          refine ⟨fun q => absurd q (by decide), fun _ => pk_le 1000000 c (fun q => absurd q (by simp at hcl; omega)) (fun _ => ?_) rfl rfl (by omega) (by simp at hcl; omega)⟩
          have hlen := chn_rows n s _ hc l (List.mem_singleton.mpr rfl)
          have hlt := c4 l (hmem l (List.mem_singleton.mpr rfl))
          have go := w_isRing (nE := nE') (rT := rT2) (E := Eo v o) (n := n) (l := l) (Z := fun r_8 => ((r_8 = 0 → Wp_X4_advance rT2 (nI s) (nI n) (nI s - 1) (fun r_11 nrT_10 => Wp_X3_find_32 (nI n) cw cV Z (nI s) r_11 (nI c + 1) nE' nrT_10 (nI s) (nI n))) ∧ (¬ r_8 = 0 → Z (nI s) nE' rT2 (nI s) (nI n)))) hn hE (by omega) (by omega) hr (fun i hi => all_getD hlt hi) ?_
          · rw [hlen] at go; exact go
          · refine pb_eq (fun hb => ?_) (fun hb => ?_)
            · have e1 : nI s - 1 = nI (s - 1) := pk_sub (b := 1) (by omega)
              rw [e1, nI_1]
              unfold chn at hc
              simp only [Bool.and_eq_true, decide_eq_true_eq, beq_iff_eq] at hc
              refine w_advance hn (by omega) (by omega) (by omega) hlen hr ok (fun l' rT3 e _ _ _ => by rw [hc.1] at e; cases e) (fun _ => ?_)
              refine F_X3_find_32 _ _ _ _ _ _ _ _ _ _ _ ?_
              refine ⟨fun _ => ?_, fun q => absurd rfl q⟩
              rw [nI_1]
              refine next ?_ _ _ _
              rw [hf, List.find?_cons, hb]
              rfl
            · rw [hf, List.find?_cons, hb] at g1
              have := h1 l nE' rT2 (nI n) (g1 l rfl) hr
              rw [hlen] at this
              exact this
        | cons l' L ihL =>
          intro l c rT2 hc hmem hcl hr ok hf
          refine F_X3_find_32 _ _ _ _ _ _ _ _ _ _ _ ?_
          refine ⟨fun q => absurd q (by decide), fun _ => pk_le 1000000 c (fun q => absurd q (by simp at hcl; omega)) (fun _ => ?_) rfl rfl (by omega) (by simp at hcl; omega)⟩
          have hlen := chn_rows n s _ hc l List.mem_cons_self
          have hlt := c4 l (hmem l List.mem_cons_self)
          have go := w_isRing (nE := nE') (rT := rT2) (E := Eo v o) (n := n) (l := l) (Z := fun r_8 => ((r_8 = 0 → Wp_X4_advance rT2 (nI s) (nI n) (nI s - 1) (fun r_11 nrT_10 => Wp_X3_find_32 (nI n) cw cV Z (nI s) r_11 (nI c + 1) nE' nrT_10 (nI s) (nI n))) ∧ (¬ r_8 = 0 → Z (nI s) nE' rT2 (nI s) (nI n)))) hn hE (by omega) (by omega) hr (fun i hi => all_getD hlt hi) ?_
          · rw [hlen] at go; exact go
          · refine pb_eq (fun hb => ?_) (fun hb => ?_)
            · have e1 : nI s - 1 = nI (s - 1) := pk_sub (b := 1) (by omega)
              rw [e1, nI_1]
              unfold chn at hc
              simp only [Bool.and_eq_true, decide_eq_true_eq, beq_iff_eq] at hc
              refine w_advance hn (by omega) (by omega) (by omega) hlen hr ok (fun l2 rT3 e q1 q2 _ => ?_) (fun e => by rw [hc.1] at e; cases e)
              rw [hc.1] at e
              cases e
              refine ihL l' (c + 1) rT3 hc.2.2 (fun x hx => hmem x (List.mem_cons_of_mem _ hx)) (by simp at hcl ⊢; omega) q1 q2 ?_
              rw [hf, List.find?_cons, hb]
            · rw [hf, List.find?_cons, hb] at g1
              have := h1 l nE' rT2 (nI n) (g1 l rfl) hr
              rw [hlen] at this
              exact this
      cases hL : Lr n s with
      | nil => rw [hL] at c3; cases c3
      | cons l L =>
        rw [hL] at c3
        cases c3
        exact rows L (fillN n s []) 0 rT' (by rw [← hL]; exact c1) (fun x hx => by rw [hL]; exact hx) (by rw [← hL]; omega) r1 r2 (by rw [hL])
  by_cases hn1 : 1 ≤ n
  · exact sizes (n - 1) 2 nrT nrs nrg (by omega) (Nat.le_refl 2) (fun l h => h) (fun h => h)
  · have e : n = 0 := by omega
    subst e
    refine F_X3_find_7 _ _ _ _ _ _ _ _ _ ?_
    exact pk_lt 0 2 (fun _ => h0 rfl _ _ _ _) (fun q => absurd q (by omega))
