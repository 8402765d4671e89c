/-! states and the history, on both sides -/
abbrev CA : Type := Nat × (Nat → Nat) × (Nat → Nat → Nat)
def okA (A : CA) : Prop := A.1 ≤ 4 ∧ okO A.1 A.2.1 ∧ okV A.2.2
def cR (A : CA) (cg : Int32) (cw : Nat → Int32) (cV : Nat → Nat → Int32) : Prop := cg = nI A.1 ∧ rW A.2.1 cw ∧ rV A.2.2 cV
def mR (off : Nat) (A : CA) (R : Nat → Int32) : Prop := R off = nI A.1 ∧ (∀ c, c < 24 → R (off + (1 + c)) = oM (A.2.1 c)) ∧ (∀ g c, g < 4 → c < 24 → R (off + (25 + 24 * g + c)) = nI (A.2.2 g c))
def cH (k : Nat) (h : Nat → CA) (qg : Nat → Int32) (qw : Nat → Nat → Int32) (qV : Nat → Nat → Nat → Int32) : Prop := ∀ i, i < k → cR (h i) (qg i) (qw i) (qV i)
def mH (k : Nat) (h : Nat → CA) (R : Nat → Int32) : Prop := ∀ i, i < k → mR (121 * (i + 1)) (h i) R
def okH (k : Nat) (h : Nat → CA) : Prop := ∀ i, i < k → okA (h i)
def recK (k : Nat) : Nat := if k = 5 then 5 else k + 1
def recH (k : Nat) (h : Nat → CA) (A : CA) : Nat → CA := if k = 5 then up (fun i => h (i + 1)) 4 A else up h k A
theorem recK_le {k : Nat} (hk : k ≤ 5) : recK k ≤ 5 := by unfold recK; split <;> omega
theorem recH_ok {k : Nat} {h : Nat → CA} {A : CA} (hk : k ≤ 5) (hh : okH k h) (hA : okA A) : okH (recK k) (recH k h A) := by
  intro i hi
  unfold recK at hi
  unfold recH
  by_cases e : k = 5
  · rw [if_pos e] at hi ⊢
    by_cases e2 : i = 4
    · subst e2; rw [up_s]; exact hA
    · rw [up_n e2]; exact hh (i + 1) (by omega)
  · rw [if_neg e] at hi ⊢
    by_cases e2 : i = k
    · subst e2; rw [up_s]; exact hA
    · rw [up_n e2]; exact hh i (by omega)
theorem mR.R0 {A : CA} {R : Nat → Int32} (h : mR 0 A R) : R 0 = nI A.1 := h.1
theorem mR.O {A : CA} {R : Nat → Int32} (h : mR 0 A R) : mO A.2.1 R := fun c hc => by
  have := h.2.1 c hc
  rw [Nat.zero_add] at this
  exact this
theorem mR.V {A : CA} {R : Nat → Int32} (h : mR 0 A R) : mV A.2.2 R := fun g c hg hc => by
  have := h.2.2 g c hg hc
  rw [Nat.zero_add] at this
  exact this
theorem mR.mk {A : CA} {R : Nat → Int32} (h0 : R 0 = nI A.1) (hO : mO A.2.1 R) (hV : mV A.2.2 R) : mR 0 A R := ⟨h0, fun c hc => by rw [Nat.zero_add]; exact hO c hc, fun g c hg hc => by rw [Nat.zero_add]; exact hV g c hg hc⟩
theorem mR.copy {a b : Nat} {A : CA} {R R' : Nat → Int32} (h : ∀ k, k < 121 → R' (b + k) = R (a + k)) (hm : mR a A R) : mR b A R' := by
  refine ⟨?_, fun c hc => ?_, fun g c hg hc => ?_⟩
  · have := h 0 (by omega)
    rw [Nat.add_zero, Nat.add_zero] at this
    rw [this]; exact hm.1
  · rw [h (1 + c) (by omega)]; exact hm.2.1 c hc
  · rw [h (25 + 24 * g + c) (by omega)]; exact hm.2.2 g c hg hc
theorem mR.keep {off : Nat} {A : CA} {R R' : Nat → Int32} (h : ∀ j, off ≤ j → j < off + 121 → R' j = R j) (hm : mR off A R) : mR off A R' := by
  refine ⟨?_, fun c hc => ?_, fun g c hg hc => ?_⟩
  · rw [h off (Nat.le_refl _) (by omega)]; exact hm.1
  · rw [h _ (by omega) (by omega)]; exact hm.2.1 c hc
  · rw [h _ (by omega) (by omega)]; exact hm.2.2 g c hg hc
theorem mH.keep {k : Nat} {h : Nat → CA} {R R' : Nat → Int32} (hm : mH k h R) (hk : ∀ j, 121 ≤ j → R' j = R j) : mH k h R' := fun i hi => (hm i hi).keep (fun j h1 _ => hk j (by omega))
theorem w7_copies {R : Nat → Int32} {a b : Nat} {Z : (Nat → Int32) → Prop} (ha : a + 121 ≤ 847) (hb : b + 121 ≤ 847) (hd : a + 121 ≤ b ∨ b + 121 ≤ a) (hz : ∀ R', (∀ k, k < 121 → R' (b + k) = R (a + k)) → (∀ j, (j < b ∨ b + 121 ≤ j) → R' j = R j) → Z R') : Wp_X7_copies R (nI a) (nI b) Z := by
  have key : ∀ d k R', k + d = 121 → (∀ i, i < k → R' (b + i) = R (a + i)) → (∀ j, (j < b ∨ b + k ≤ j) → R' j = R j) → Wp_X7_copies_2 (nI a) (nI b) Z (nI k) R' := by
    intro d
    induction d with
    | zero =>
      intro k R' hkd h1 h2
      refine F_X7_copies_2 _ _ _ _ _ ?_
      refine pk_le 121 k (fun _ => hz R' (fun i hi => h1 i (by omega)) (fun j hj => h2 j (by omega))) (fun q => absurd q (by omega))
    | succ d ih =>
      intro k R' hkd h1 h2
      refine F_X7_copies_2 _ _ _ _ _ ?_
      refine pk_le 121 k (fun q => absurd q (by omega)) (fun _ => ?_)
      rw [nI_add, nI_add, q_cl (a + k) (by omega), q_cl (b + k) (by omega), nI_1]
      refine ⟨q_in (by omega), q_in (by omega), ?_⟩
      refine ih (k + 1) _ (by omega) (fun i hi => ?_) (fun j hj => ?_)
      · by_cases e : i = k
        · subst e
          rw [pk_us]
          exact h2 (a + i) (by omega)
        · rw [pk_un (by omega)]
          exact h1 i (by omega)
      · rw [pk_un (by omega)]
        exact h2 j (by omega)
  exact key 121 0 R (by omega) (fun i hi => by omega) (fun j _ => rfl)
theorem w7_records {R : Nat → Int32} {k : Nat} {h : Nat → CA} {A : CA} {Z : (Nat → Int32) → Int32 → Prop} (hk : k ≤ 5) (hA : mR 0 A R) (hH : mH k h R) (hz : ∀ R', mR 0 A R' → mH (recK k) (recH k h A) R' → Z R' (nI (recK k))) : Wp_X7_records R (nI k) Z := by
  have last : ∀ (k' : Nat) (h' : Nat → CA) (R' : Nat → Int32) (J : Int32 → (Nat → Int32) → Int32 → Prop), k' < 5 → mR 0 A R' → mH k' h' R' → recK k = k' + 1 → recH k h A = up h' k' A → K_X7_records_45 Z J R' (nI k') := by
    intro k' h' R' J hk' hA' hH' e1 e2
    unfold K_X7_records_45
    have e3 : (121 : Int32) * (nI k' + 1) = nI (121 * (k' + 1)) := by rw [nI_1]; exact pk_mul 121 (k' + 1)
    rw [e3, nI_1]
    refine w7_copies (a := 0) (by omega) (by omega) (by omega) (fun R2 c1 c2 => ?_)
    have hz2 := hz R2
    rw [e1, e2] at hz2
    refine hz2 (hA'.keep (fun j _ j2 => c2 j (by omega))) (fun i hi => ?_)
    by_cases e : i = k'
    · subst e
      rw [up_s]
      exact hA'.copy c1
    · rw [up_n e]
      exact (hH' i (by omega)).keep (fun j j1 j2 => c2 j (by omega))
  by_cases e : k = 5
  · subst e
    have eK : recK 5 = 4 + 1 := rfl
    have eH : recH 5 h A = up (fun i => h (i + 1)) 4 A := if_pos rfl
    refine pq_ne 5 5 (fun q => absurd rfl q) (fun _ => ?_)
    have key : ∀ d x R', x + d = 5 → 1 ≤ x → mR 0 A R' → (∀ i, i + 1 < x → mR (121 * (i + 1)) (h (i + 1)) R') → (∀ i, x ≤ i + 1 → i < 5 → mR (121 * (i + 1)) (h i) R') → Wp_X7_records_10 Z (nI x) R' (nI 5) := by
      intro d
      induction d with
      | zero =>
        intro x R' hxd hx1 hA' h1 h2
        refine F_X7_records_10 _ _ _ _ ?_
        refine pk_le 5 x (fun _ => ?_) (fun q => absurd q (by omega))
        exact last 4 (fun i => h (i + 1)) R' _ (by omega) hA' (fun i hi => h1 i (by omega)) eK eH
      | succ d ih =>
        intro x R' hxd hx1 hA' h1 h2
        refine F_X7_records_10 _ _ _ _ ?_
        refine pk_le 5 x (fun q => absurd q (by omega)) (fun _ => ?_)
        have e3 : (121 : Int32) * (nI x + 1) = nI (121 * (x + 1)) := by rw [nI_1]; exact pk_mul 121 (x + 1)
        have e4 : (121 : Int32) * nI x = nI (121 * x) := pk_mul 121 x
        rw [e3, e4]
        refine w7_copies (by omega) (by omega) (by omega) (fun R2 c1 c2 => ?_)
        rw [nI_1]
        refine ih (x + 1) R2 (by omega) (by omega) (hA'.keep (fun j _ j2 => c2 j (by omega))) (fun i hi => ?_) (fun i i1 i2 => ?_)
        · by_cases e5 : i + 1 = x
          · subst e5
            exact (h2 (i + 1) (by omega) (by omega)).copy c1
          · exact (h1 i (by omega)).keep (fun j j1 j2 => c2 j (by omega))
        · exact (h2 i (by omega) i2).keep (fun j j1 j2 => c2 j (by omega))
    exact key 4 1 R (by omega) (by omega) hA (fun i hi => by omega) (fun i _ hi => hH i hi)
  · refine pq_ne k 5 (fun _ => ?_) (fun q => absurd q e)
    exact last k h R _ (by omega) hA hH (if_neg e) (if_neg e)
theorem q_cpy {f g : Nat → Int32} {j : Nat} (hj : j < 24) : va_cpy f g 0 0 24 j = f j := by
  rw [pk_cpy_in (by omega) (by omega)]
  congr 1
  omega
theorem w_takeOwners {o : Nat → Nat} {cw fw : Nat → Int32} {Z : (Nat → Int32) → Prop} (hW : rW o fw) (hz : ∀ w', rW o w' → Z w') : Wp_X0_takeOwners cw fw Z := hz _ (fun c hc => by rw [q_cpy hc]; exact hW c hc)
theorem w_takeValues {cV : Nat → Nat → Int32} {fw : Nat → Int32} {g : Nat} {Z : (Nat → Nat → Int32) → Prop} (hg : g < 4) (hz : ∀ V', (∀ k, k ≠ g → V' k = cV k) → (∀ c, c < 24 → V' g c = fw c) → Z V') : Wp_X0_takeValues cV fw (nI g) Z := by
  refine ⟨q_in hg, ?_⟩
  rw [q_cl g]
  refine hz _ (fun k hk => ?_) (fun c hc => ?_)
  · unfold va_up; exact if_neg hk
  · unfold va_up; rw [if_pos rfl]; exact q_cpy hc
theorem w_become {A : CA} {cg eg : Int32} {cw ew : Nat → Int32} {cV eV : Nat → Nat → Int32} {Z : Int32 → (Nat → Int32) → (Nat → Nat → Int32) → Prop} (he : cR A eg ew eV) (hz : ∀ w' V', cR A eg w' V' → Z eg w' V') : Wp_X0_become cg cw cV eg ew eV Z := by
  obtain ⟨h1, h2, h3⟩ := he
  refine w_takeOwners h2 (fun w' hw' => ?_)
  refine w_takeValues (g := 0) (by omega) (fun V0 a0 b0 => ?_)
  refine w_takeValues (g := 1) (by omega) (fun V1 a1 b1 => ?_)
  refine w_takeValues (g := 2) (by omega) (fun V2 a2 b2 => ?_)
  refine w_takeValues (g := 3) (by omega) (fun V3 a3 b3 => ?_)
  refine hz w' V3 ⟨h1, hw', fun g c hg hc => ?_⟩
  rcases (show g = 0 ∨ g = 1 ∨ g = 2 ∨ g = 3 by omega) with rfl | rfl | rfl | rfl
  · rw [a3 0 (by omega), a2 0 (by omega), a1 0 (by omega), b0 c hc]; exact h3 0 c hg hc
  · rw [a3 1 (by omega), a2 1 (by omega), b1 c hc]; exact h3 1 c hg hc
  · rw [a3 2 (by omega), b2 c hc]; exact h3 2 c hg hc
  · rw [b3 c hc]; exact h3 3 c hg hc
theorem w_record {k : Nat} {h : Nat → CA} {A : CA} {sq cg : Int32} {cw : Nat → Int32} {cV : Nat → Nat → Int32} {qg : Nat → Int32} {qw : Nat → Nat → Int32} {qV : Nat → Nat → Nat → Int32} {Z : Int32 → Int32 → (Nat → Int32) → (Nat → Nat → Int32) → (Nat → Nat → Nat → Int32) → Prop} (hk : k ≤ 5) (hA : cR A cg cw cV) (hH : cH k h qg qw qV) (hz : ∀ qg' qw' qV', cH (recK k) (recH k h A) qg' qw' qV' → Z (nI (recK k)) 0 qg' qw' qV') : Wp_X6_record (nI k) sq cg cw cV qg qw qV Z := by
  have last : ∀ (k' : Nat) (h' : Nat → CA) (qg : Nat → Int32) (qw : Nat → Nat → Int32) (qV : Nat → Nat → Nat → Int32), k' < 5 → cH k' h' qg qw qV → recK k = k' + 1 → recH k h A = up h' k' A → K_X6_record_12 cg cw cV Z (nI k') sq qg qw qV := by
    intro k' h' qg qw qV hk' hH' e1 e2
    refine ⟨q_in hk', ?_⟩
    rw [q_cl k', nI_1]
    refine w_become hA (fun w' V' hA' => ?_)
    have hz2 := hz (va_up qg k' cg) (va_up qw k' w') (va_up qV k' V')
    rw [e1, e2] at hz2
    refine hz2 (fun i hi => ?_)
    unfold va_up
    by_cases e : i = k'
    · subst e
      rw [up_s, if_pos rfl, if_pos rfl, if_pos rfl]
      exact hA'
    · rw [up_n e, if_neg e, if_neg e, if_neg e]
      exact hH' i (by omega)
  by_cases e : k = 5
  · subst e
    refine pk_lt 5 5 (fun q => absurd q (by omega)) (fun _ => ?_)
    refine last 4 (fun i => h (i + 1)) (zrot qg) (zrot qw) (zrot qV) (by omega) (fun i hi => ?_) rfl (if_pos rfl)
    unfold zrot
    rw [if_neg (by omega), if_neg (by omega), if_neg (by omega)]
    exact hH (i + 1) (by omega)
  · refine pk_lt k 5 (fun _ => ?_) (fun q => absurd q (by omega))
    exact last k h qg qw qV (by omega) hH (if_neg e) (if_neg e)
/-! the reference's writes -/
def fO (R R' : Nat → Int32) : Prop := ∀ j, (j = 0 ∨ 25 ≤ j) → R' j = R j
def fV (R R' : Nat → Int32) : Prop := ∀ j, (j < 25 ∨ 121 ≤ j) → R' j = R j
theorem mR.setO {n : Nat} {o o' : Nat → Nat} {v : Nat → Nat → Nat} {R R' : Nat → Int32} (h : mR 0 (n, o, v) R) (hO : mO o' R') (hf : fO R R') : mR 0 (n, o', v) R' := mR.mk (by rw [hf 0 (Or.inl rfl)]; exact h.R0) hO (fun g c hg hc => by rw [hf _ (Or.inr (by omega))]; exact h.V g c hg hc)
theorem mR.setV {n : Nat} {o : Nat → Nat} {v v' : Nat → Nat → Nat} {R R' : Nat → Int32} (h : mR 0 (n, o, v) R) (hV : mV v' R') (hf : fV R R') : mR 0 (n, o, v') R' := mR.mk (by rw [hf 0 (by omega)]; exact h.R0) (fun c hc => by rw [hf _ (Or.inl (by omega))]; exact h.O c hc) hV
theorem mH.fO {k : Nat} {h : Nat → CA} {R R' : Nat → Int32} (hm : mH k h R) (hf : fO R R') : mH k h R' := hm.keep (fun j hj => hf j (Or.inr (by omega)))
theorem mH.fV {k : Nat} {h : Nat → CA} {R R' : Nat → Int32} (hm : mH k h R) (hf : fV R R') : mH k h R' := hm.keep (fun j hj => hf j (Or.inr (by omega)))
theorem mO_up {o : Nat → Nat} {R : Nat → Int32} {c h : Nat} (hO : mO o R) : mO (up o c h) (upd R (1 + c) (oM h)) := fun j hj => by
  by_cases e : j = c
  · subst e
    rw [up_s, pk_us]
  · rw [up_n e, pk_un (by omega)]
    exact hO j hj
theorem fO_up {R R' : Nat → Int32} {c : Nat} {x : Int32} (hc : c < 24) (hf : fO R R') : fO R (upd R' (1 + c) x) := fun j hj => by
  rw [pk_un (by omega)]
  exact hf j hj
theorem w7_bringsT {R : Nat → Int32} {o : Nat → Nat} {n h a b : Nat} {Z : Int32 → (Nat → Int32) → Prop} (hn : n ≤ 4) (hok : okO n o) (hh : h ≤ n) (hb : b < 24) (hab : a ≤ b + 1) (hO : mO o R) (hz : ∀ R', mO (ho h (b + 1 - a) a o 0).1 R' → fO R R' → Z (nI (ho h (b + 1 - a) a o 0).2) R') : Wp_X7_brings R (nI a) (nI b) 1 (oM h) Z := by
  have key : ∀ d c k o R', c + d = b + 1 → okO n o → mO o R' → fO R R' → (∀ R2, mO (ho h d c o k).1 R2 → fO R R2 → Z (nI (ho h d c o k).2) R2) → Wp_X7_brings_6 (nI a) (nI b) 1 (oM h) Z (nI k) (nI c) R' := by
    intro d
    induction d with
    | zero =>
      intro c k o R' hcd hok hO hf hz
      refine F_X7_brings_6 _ _ _ _ _ _ _ _ ?_
      exact pk_lt b c (fun _ => hz R' hO hf) (fun q => absurd q (by omega))
    | succ d ih =>
      intro c k o R' hcd hok hO hf hz
      refine F_X7_brings_6 _ _ _ _ _ _ _ _ ?_
      have hc : c < 24 := by omega
      have hoc := hok c hc
      unfold ho at hz
      refine pk_lt b c (fun q => absurd q (by omega)) (fun _ => ?_)
      rw [ix_o, q_cl (1 + c) (by omega), hO c hc]
      refine ⟨q_in (by omega), ?_⟩
      refine pm_ne (o c) 0 (fun e => ?_) (fun e => ?_)
      · rw [if_neg e] at hz
        refine pq_ne 0 1 (fun _ => ?_) (fun q => absurd q (by omega))
        rw [nI_1]
        exact ih (c + 1) k o R' (by omega) hok hO hf hz
      · rw [if_pos e] at hz
        refine pq_ne 1 1 (fun q => absurd rfl q) (fun _ => ?_)
        rw [ix_o, q_cl (1 + c) (by omega), nI_1, nI_1]
        exact ⟨q_in (by omega), ih (c + 1) (k + 1) (up o c h) _ (by omega) (okO_up hok hh) (mO_up hO) (fO_up hc hf) hz⟩
  exact key (b + 1 - a) a 0 o R (by omega) hok hO (fun _ _ => rfl) hz
theorem w7_bringsF {R : Nat → Int32} {o : Nat → Nat} {n a b : Nat} {Z : Int32 → (Nat → Int32) → Prop} (hn : n ≤ 4) (hok : okO n o) (hb : b < 24) (hab : a ≤ b + 1) (hO : mO o R) (hz : ∀ R', mO (tb (b + 1 - a) a o 0).1 R' → fO R R' → Z (nI (tb (b + 1 - a) a o 0).2) R') : Wp_X7_brings R (nI a) (nI b) 0 (-9) Z := by
  have key : ∀ d c k o R', c + d = b + 1 → okO n o → mO o R' → fO R R' → (∀ R2, mO (tb d c o k).1 R2 → fO R R2 → Z (nI (tb d c o k).2) R2) → Wp_X7_brings_6 (nI a) (nI b) 0 (-9) Z (nI k) (nI c) R' := by
    intro d
    induction d with
    | zero =>
      intro c k o R' hcd hok hO hf hz
      refine F_X7_brings_6 _ _ _ _ _ _ _ _ ?_
      exact pk_lt b c (fun _ => hz R' hO hf) (fun q => absurd q (by omega))
    | succ d ih =>
      intro c k o R' hcd hok hO hf hz
      refine F_X7_brings_6 _ _ _ _ _ _ _ _ ?_
      have hc : c < 24 := by omega
      have hoc := hok c hc
      unfold tb at hz
      refine pk_lt b c (fun q => absurd q (by omega)) (fun _ => ?_)
      rw [ix_o, q_cl (1 + c) (by omega), hO c hc]
      refine ⟨q_in (by omega), ?_⟩
      refine pm_ne (o c) 0 (fun e => ?_) (fun e => ?_)
      · rw [if_neg e] at hz
        refine pq_ne 0 0 (fun q => absurd rfl q) (fun _ => ?_)
        rw [ix_o, q_cl (1 + c) (by omega), nI_1, nI_1]
        exact ⟨q_in (by omega), ih (c + 1) (k + 1) (up o c 0) _ (by omega) (okO_up hok (by omega)) (mO_up (h := 0) hO) (fO_up hc hf) hz⟩
      · rw [if_pos e] at hz
        refine pq_ne 1 0 (fun _ => ?_) (fun q => absurd q (by omega))
        rw [nI_1]
        exact ih (c + 1) k o R' (by omega) hok hO hf hz
  exact key (b + 1 - a) a 0 o R (by omega) hok hO (fun _ _ => rfl) hz
