/-! divisions, the class: what is laid ready, and the spans -/
theorem vu_s {α : Type} (f : Nat → α) (k : Nat) (x : α) : va_up f k x k = x := by unfold va_up; exact if_pos rfl
theorem vu_n {α : Type} {f : Nat → α} {k i : Nat} {x : α} (h : i ≠ k) : va_up f k x i = f i := by unfold va_up; exact if_neg h
theorem c0_get : ∀ n, n < 5 → 1 ≤ n → ∀ k, k < n → (c0 n).getD k 0 = k := by decide
theorem c0_last : ∀ n, n < 5 → 1 ≤ n → (c0 n).getD n 0 = 24 := by decide
def rS (n : Nat) (c : List Nat) (ST : Nat → Int32) : Prop := ∀ k, k ≤ n → ST k = nI (c.getD k 0)
def rA (v : Nat → Nat → Nat) (n : Nat) (AH : Nat → Nat → Int32) : Prop := ∀ g, g < n → ∀ c, c ≤ 24 → AH g c = nI (sg (v g) 0 c)
def rT (v : Nat → Nat → Nat) (n : Nat) (TO : Nat → Int32) : Prop := ∀ g, g < n → TO g = nI (T1 v g)
def rZ (AH : Nat → Nat → Int32) : Prop := ∀ g, g < 4 → AH g 0 = 0
def rP (v : Nat → Nat → Nat) (n : Nat) (c : List Nat) (PA : Nat → Nat → Int32) : Prop := ∀ g, g < n → ∀ k, k < n → PA g k = nI (wk v c g k)
theorem w_prepare {v : Nat → Nat → Nat} {n : Nat} {cV dAH : Nat → Nat → Int32} {dFp dFt dQc dSp : Int32} {dST dTO : Nat → Int32} {Z : Int32 → Int32 → Int32 → Int32 → (Nat → Int32) → (Nat → Int32) → (Nat → Nat → Int32) → Prop} (h1 : 1 ≤ n) (hn : n ≤ 4) (hv : okV v) (hV : rV v cV) (h0 : rZ dAH)
    (hz : ∀ ST TO AH, rS n (c0 n) ST → rT v n TO → rA v n AH → rZ AH → Z (-1) 1 0 (nI n) ST TO AH) : Wp_X1_prepare dFp dFt dQc dSp dST dTO dAH (nI n) cV Z := by
  have l101 : ∀ d k ST TO AH, k + d = n → (∀ j, j < k → ST j = nI j) → rT v n TO → rA v n AH → rZ AH → Wp_X1_prepare_101 (nI n) cV Z (nI k) (-1) 1 0 (nI n) ST TO AH := by
    intro d
    induction d with
    | zero =>
      intro k ST TO AH hkd hS hT hA hZ
      refine F_X1_prepare_101 _ _ _ _ _ _ _ _ _ _ _ ?_
      refine pk_le n k (fun _ => ⟨q_in (by omega), ?_⟩) (fun q => absurd q (by omega))
      rw [q_cl n]
      refine hz _ TO AH (fun j hj => ?_) hT hA hZ
      by_cases e : j = n
      · subst e
        rw [pk_us, c0_last j (by omega) h1]
        rfl
      · rw [pk_un e, hS j (by omega), c0_get n (by omega) h1 j (by omega)]
    | succ d ih =>
      intro k ST TO AH hkd hS hT hA hZ
      refine F_X1_prepare_101 _ _ _ _ _ _ _ _ _ _ _ ?_
      refine pk_le n k (fun q => absurd q (by omega)) (fun _ => ⟨q_in (by omega), ?_⟩)
      rw [q_cl k, nI_1]
      refine ih (k + 1) _ TO AH (by omega) (fun j hj => ?_) hT hA hZ
      by_cases e : j = k
      · subst e; rw [pk_us]
      · rw [pk_un e]; exact hS j (by omega)
  have l25 : ∀ d g ST TO AH, g + d = n → rT v g TO → rA v g AH → rZ AH → Wp_X1_prepare_25 (nI n) cV Z (nI g) (-1) 1 0 (nI n) ST TO AH := by
    intro d
    induction d with
    | zero =>
      intro g ST TO AH hgd hT hA hZ
      refine F_X1_prepare_25 _ _ _ _ _ _ _ _ _ _ _ ?_
      have e : g = n := by omega
      subst e
      refine pk_le g g (fun _ => ?_) (fun q => absurd (Nat.le_refl g) (by omega))
      exact l101 g 0 ST TO AH (by omega) (fun j hj => absurd hj (by omega)) hT hA hZ
    | succ d ih =>
      intro g ST TO AH hgd hT hA hZ
      refine F_X1_prepare_25 _ _ _ _ _ _ _ _ _ _ _ ?_
      have hg4 : g < 4 := by omega
      refine pk_le n g (fun q => absurd q (by omega)) (fun _ => ?_)
      have l35 : ∀ e c AH, c + e = 24 → rA v g AH → rZ AH → (∀ j, j ≤ c → AH g j = nI (sg (v g) 0 j)) → Wp_X1_prepare_35 (nI n) cV Z (nI g) (nI c) (-1) 1 0 (nI n) ST TO AH := by
        intro e
        induction e with
        | zero =>
          intro c AH hce hA hZ hb
          refine F_X1_prepare_35 _ _ _ _ _ _ _ _ _ _ _ _ ?_
          have hc : c = 24 := by omega
          subst hc
          refine pk_le 24 24 (fun _ => ⟨q_in hg4, q_in (k := 24) (by omega), ?_⟩) (fun q => absurd q (by omega))
          have e24 : AH (nI g).toNatClampNeg (24 : Int32).toNatClampNeg = nI (To v g) := by rw [q_cl g]; exact hb 24 (Nat.le_refl 24)
          rw [e24, q_cl g, nI_1]
          have ht := To_le hv hg4
          have ew : (if (1 : Int32) < nI (To v g) then nI (To v g) else 1) = nI (T1 v g) := by
            unfold T1
            by_cases q : 1 < To v g
            · rw [if_pos q, if_pos (show (1 : Int32) < nI (To v g) from nI_lt (a := 1) (b := To v g) q (by omega))]
            · rw [if_neg q, if_neg (show ¬ (1 : Int32) < nI (To v g) from nI_nlt (a := 1) (b := To v g) (by omega) (by omega))]
              rfl
          rw [ew]
          refine ih (g + 1) ST _ AH (by omega) (fun j hj => ?_) (fun j hj c hc => ?_) hZ
          · by_cases q : j = g
            · subst q; rw [pk_us]
            · rw [pk_un q]; exact hT j (by omega)
          · by_cases q : j = g
            · subst q; exact hb c hc
            · exact hA j (by omega) c hc
        | succ e ihe =>
          intro c AH hce hA hZ hb
          refine F_X1_prepare_35 _ _ _ _ _ _ _ _ _ _ _ _ ?_
          have e1 : nI c + 1 = nI (c + 1) := by rw [nI_1]
          unfold B_X1_prepare_35
          rw [e1]
          refine pk_le 24 c (fun q => absurd q (by omega)) (fun _ => ⟨q_in hg4, q_in (by omega), q_in (by omega), q_in (by omega), ?_⟩)
          rw [q_cl g, q_cl c, q_cl (c + 1), hb c (Nat.le_refl c), hV g c hg4 (by omega), nI_add]
          have es : sg (v g) 0 c + v g c = sg (v g) 0 (c + 1) := by rw [sg_last, Nat.zero_add]
          rw [es]
          refine ihe (c + 1) _ (by omega) (fun j hj i hi => ?_) (fun j hj => ?_) (fun j hj => ?_)
          · rw [vu_n (by omega)]; exact hA j hj i hi
          · by_cases q : j = g
            · subst q; rw [vu_s, pk_un (by omega)]; exact hZ j hj
            · rw [vu_n q]; exact hZ j hj
          · rw [vu_s]
            by_cases q : j = c + 1
            · subst q; rw [pk_us]
            · rw [pk_un q]; exact hb j (by omega)
      exact l35 24 0 AH (by omega) hA hZ (fun j hj => by
        have : j = 0 := by omega
        subst this
        exact hZ g hg4)
  exact l25 n 0 dST dTO dAH (by omega) (fun j hj => absurd hj (by omega)) (fun j hj => absurd hj (by omega)) h0
def gx (v : Nat → Nat → Nat) (c : List Nat) (g : Nat) : Nat → Nat → Nat → Nat
  | 0, _, m => m
  | d + 1, k, m => gx v c g d (k + 1) (if m < wk v c g k then wk v c g k else m)
theorem gx_le {v : Nat → Nat → Nat} {c : List Nat} {g x : Nat} : ∀ d k m, gx v c g d k m ≤ x ↔ (m ≤ x ∧ ∀ j, k ≤ j → j < k + d → wk v c g j ≤ x)
  | 0, k, m => ⟨fun h => ⟨h, fun j h1 h2 => absurd h2 (by omega)⟩, fun h => h.1⟩
  | d + 1, k, m => by
    unfold gx
    rw [gx_le d (k + 1)]
    constructor
    · rintro ⟨h1, h2⟩
      split at h1
      · refine ⟨by omega, fun j j1 j2 => ?_⟩
        by_cases e : j = k
        · subst e; exact h1
        · exact h2 j (by omega) (by omega)
      · refine ⟨h1, fun j j1 j2 => ?_⟩
        by_cases e : j = k
        · subst e; omega
        · exact h2 j (by omega) (by omega)
    · rintro ⟨h1, h2⟩
      refine ⟨?_, fun j j1 j2 => h2 j (by omega) (by omega)⟩
      split
      · exact h2 k (Nat.le_refl k) (by omega)
      · exact h1
theorem enA_iff {v : Nat → Nat → Nat} {c l : List Nat} {k : Nat} : ∀ d o, enA v c l k d o = false ↔ ∀ j, o ≤ j → j < o + d → wk v c (gA l k) j ≤ wk v c (gA l k) k
  | 0, o => ⟨fun _ j h1 h2 => absurd h2 (by omega), fun _ => rfl⟩
  | d + 1, o => by
    unfold enA
    rw [Bool.or_eq_false_iff, enA_iff d (o + 1), decide_eq_false_iff_not]
    constructor
    · rintro ⟨h1, h2⟩ j j1 j2
      by_cases e : j = o
      · subst e; omega
      · exact h2 j (by omega) (by omega)
    · intro h
      exact ⟨by have := h o (Nat.le_refl o) (by omega); omega, fun j j1 j2 => h j (by omega) (by omega)⟩
def rG (v : Nat → Nat → Nat) (n : Nat) (c : List Nat) (GR : Nat → Int32) : Prop := ∀ g, g < n → GR g = nI (gx v c g n 0 0)
theorem okC_of {n : Nat} {c : List Nat} (h : okC n c = true) : c.length = 5 ∧ (∀ k, k < n → c.getD k 0 ≤ c.getD (k + 1) 0) ∧ c.getD 0 0 = 0 ∧ c.getD n 0 = 24 ∧ (∀ k, c.getD k 0 ≤ 24) := by
  unfold okC at h
  simp only [Bool.and_eq_true, decide_eq_true_eq, List.all_eq_true, List.mem_range] at h
  refine ⟨h.1, h.2.1, h.2.2.1, h.2.2.2.1, fun k => ?_⟩
  by_cases hk : k < c.length
  · rw [List.getD_eq_getElem?_getD, List.getElem?_eq_getElem hk]
    exact h.2.2.2.2 _ (List.getElem_mem hk)
  · rw [List.getD_eq_getElem?_getD, List.getElem?_eq_none (by omega)]
    exact Nat.zero_le _
theorem wk_le {v : Nat → Nat → Nat} {n : Nat} {c : List Nat} {g k : Nat} (hv : okV v) (hg : g < 4) (hc : okC n c = true) : wk v c g k ≤ 216 := by
  obtain ⟨h1, h2, h3, h4, h5⟩ := okC_of hc
  have a := h5 k
  have b := h5 (k + 1)
  unfold wk
  refine sgv_le hv hg ?_
  omega
theorem gx_bd {v : Nat → Nat → Nat} {n : Nat} {c : List Nat} {g d k m : Nat} (hv : okV v) (hg : g < 4) (hc : okC n c = true) (hm : m ≤ 216) : gx v c g d k m ≤ 216 := (gx_le d k m).mpr ⟨hm, fun j _ _ => wk_le hv hg hc⟩
theorem w_measureSpans {v : Nat → Nat → Nat} {n : Nat} {c : List Nat} {ST GR : Nat → Int32} {AH PA : Nat → Nat → Int32} {Z : (Nat → Nat → Int32) → (Nat → Int32) → Prop} (hn : n ≤ 4) (hv : okV v) (hc : okC n c = true) (hS : rS n c ST) (hA : rA v n AH) (hz : ∀ PA' GR', rP v n c PA' → rG v n c GR' → Z PA' GR') : Wp_X1_measureSpans (nI n) ST AH PA GR Z := by
  obtain ⟨c1, c2, c3, c4, c5⟩ := okC_of hc
  have l2 : ∀ d g PA GR, g + d = n → (∀ j, j < g → ∀ k, k < n → PA j k = nI (wk v c j k)) → (∀ j, j < g → GR j = nI (gx v c j n 0 0)) → Wp_X1_measureSpans_2 (nI n) ST AH Z (nI g) PA GR := by
    intro d
    induction d with
    | zero =>
      intro g PA GR hgd hP hG
      refine F_X1_measureSpans_2 _ _ _ _ _ _ _ ?_
      have e : g = n := by omega
      subst e
      exact pk_le g g (fun _ => hz PA GR hP hG) (fun q => absurd (Nat.le_refl g) (by omega))
    | succ d ih =>
      intro g PA GR hgd hP hG
      refine F_X1_measureSpans_2 _ _ _ _ _ _ _ ?_
      refine pk_le n g (fun q => absurd q (by omega)) (fun _ => ⟨q_in (by omega), ?_⟩)
      have l19 : ∀ e k m PA GR, k + e = n → m ≤ 216 → gx v c g e k m = gx v c g n 0 0 → GR g = nI m → (∀ j, j < k → PA g j = nI (wk v c g j)) → (∀ j, j < g → ∀ k, k < n → PA j k = nI (wk v c j k)) → (∀ j, j < g → GR j = nI (gx v c j n 0 0)) → Wp_X1_measureSpans_19 (nI n) ST AH Z (nI g) (nI k) PA GR := by
        intro e
        induction e with
        | zero =>
          intro k m PA GR hke hm216 hm hg hb hP hG
          refine F_X1_measureSpans_19 _ _ _ _ _ _ _ _ ?_
          have e : k = n := by omega
          subst e
          refine pk_le k k (fun _ => ?_) (fun q => absurd (Nat.le_refl k) (by omega))
          rw [nI_1]
          refine ih (g + 1) PA GR (by omega) (fun j hj i hi => ?_) (fun j hj => ?_)
          · by_cases q : j = g
            · subst q; exact hb i hi
            · exact hP j (by omega) i hi
          · by_cases q : j = g
            · subst q; rw [hg, ← hm]; rfl
            · exact hG j (by omega)
        | succ e ihe =>
          intro k m PA GR hke hm216 hm hg hb hP hG
          refine F_X1_measureSpans_19 _ _ _ _ _ _ _ _ ?_
          have e1 : nI k + 1 = nI (k + 1) := by rw [nI_1]
          have a1 := c5 k
          have a2 := c5 (k + 1)
          have a3 := c2 k (by omega)
          have hg4 : g < 4 := by omega
          have es : sg (v g) 0 (c.getD (k + 1) 0) = sg (v g) 0 (c.getD k 0) + wk v c g k := by
            have := sg_add (v g) (c.getD k 0) 0 (c.getD (k + 1) 0 - c.getD k 0)
            rw [Nat.zero_add, show c.getD k 0 + (c.getD (k + 1) 0 - c.getD k 0) = c.getD (k + 1) 0 by omega] at this
            exact this
          have b1 : sg (v g) 0 (c.getD (k + 1) 0) ≤ 216 := sgv_le hv hg4 (by omega)
          have ed : AH g (c.getD (k + 1) 0) - AH g (c.getD k 0) = nI (wk v c g k) := by
            rw [hA g (by omega) _ a2, hA g (by omega) _ a1, pk_sub (by omega), es, Nat.add_sub_cancel_left]
          have b2 := wk_le (k := k) hv hg4 hc
          unfold B_X1_measureSpans_19
          rw [e1, q_cl g, q_cl k, q_cl (k + 1), hS k (by omega), hS (k + 1) (by omega), q_cl (c.getD k 0) (by omega), q_cl (c.getD (k + 1) 0) (by omega), ed, vu_s, pk_us, hg]
          refine pk_le n k (fun q => absurd q (by omega)) (fun _ => ⟨q_in (by omega), q_in (by omega), q_in (by omega), q_in (by omega), q_in (by omega), q_in (by omega), ?_⟩)
          have hm : gx v c g e (k + 1) (if m < wk v c g k then wk v c g k else m) = gx v c g n 0 0 := hm
          have ew : (if nI m < nI (wk v c g k) then nI (wk v c g k) else nI m) = nI (if m < wk v c g k then wk v c g k else m) := by
            by_cases q : m < wk v c g k
            · rw [if_pos q, if_pos (nI_lt q (by omega))]
            · rw [if_neg q, if_neg (nI_nlt (by omega) (by omega))]
          rw [ew]
          refine ihe (k + 1) (if m < wk v c g k then wk v c g k else m) _ _ (by omega) (by split <;> omega) hm pk_us (fun j hj => ?_) (fun j hj i hi => ?_) (fun j hj => ?_)
          · rw [vu_s]
            by_cases q : j = k
            · subst q; rw [pk_us]
            · rw [pk_un q]; exact hb j (by omega)
          · rw [vu_n (by omega)]; exact hP j hj i hi
          · rw [pk_un (by omega)]; exact hG j hj
      rw [q_cl g]
      refine l19 n 0 0 PA _ (by omega) (by omega) rfl pk_us (fun j hj => absurd hj (by omega)) hP (fun j hj => ?_)
      rw [pk_un (by omega)]; exact hG j hj
  exact l2 n 0 PA GR (by omega) (fun j hj => absurd hj (by omega)) (fun j hj => absurd hj (by omega))
