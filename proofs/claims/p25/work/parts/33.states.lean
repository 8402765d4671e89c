/-! states and the history, on both sides -/
abbrev CA : Type := Nat × (Nat → Nat) × (Nat → Nat → Nat)
def okA (A : CA) : Prop := A.1 ≤ 4 ∧ okO A.1 A.2.1 ∧ okV A.2.2
def cR (A : CA) (cg : Int32) (cw : Nat → Int32) (cV : Nat → Nat → Int32) : Prop := cg = nI A.1 ∧ rW A.2.1 cw ∧ rV A.2.2 cV
def cH (k : Nat) (h : Nat → CA) (qg : Nat → Int32) (qw : Nat → Nat → Int32) (qV : Nat → Nat → Nat → Int32) : Prop := ∀ i, i < k → cR (h i) (qg i) (qw i) (qV i)
def okH (k : Nat) (h : Nat → CA) : Prop := ∀ i, i < k → okA (h i)
def recK (k : Nat) : Nat := if k = 5 then 5 else k + 1
def recH (k : Nat) (h : Nat → CA) (A : CA) : Nat → CA := if k = 5 then up (fun i => h (i + 1)) 4 A else up h k A
theorem recK_le {k : Nat} (hk : k ≤ 5) : recK k ≤ 5 := by unfold recK; split <;> omega
theorem recH_ok {k : Nat} {h : Nat → CA} {A : CA} (hk : k ≤ 5) (hh : okH k h) (hA : okA A) : okH (recK k) (recH k h A) := by
  intro i hi
  unfold recK at hi
  unfold recH
  by_cases e : k = 5
  · rw [if_pos e] at hi ⊢
    by_cases e2 : i = 4
    · subst e2; rw [up_s]; exact hA
    · rw [up_n e2]; exact hh (i + 1) (by omega)
  · rw [if_neg e] at hi ⊢
    by_cases e2 : i = k
    · subst e2; rw [up_s]; exact hA
    · rw [up_n e2]; exact hh i (by omega)
theorem q_cpy {f g : Nat → Int32} {j : Nat} (hj : j < 24) : va_cpy f g 0 0 24 j = f j := by
  rw [pk_cpy_in (by omega) (by omega)]
  congr 1
  omega
theorem w_takeOwners {o : Nat → Nat} {cw fw : Nat → Int32} {Z : (Nat → Int32) → Prop} (hW : rW o fw) (hz : ∀ w', rW o w' → Z w') : Wp_X0_takeOwners cw fw Z := hz _ (fun c hc => by rw [q_cpy hc]; exact hW c hc)
theorem w_takeValues {cV : Nat → Nat → Int32} {fw : Nat → Int32} {g : Nat} {Z : (Nat → Nat → Int32) → Prop} (hg : g < 4) (hz : ∀ V', (∀ k, k ≠ g → V' k = cV k) → (∀ c, c < 24 → V' g c = fw c) → Z V') : Wp_X0_takeValues cV fw (nI g) Z := by
  refine ⟨q_in hg, ?_⟩
  rw [q_cl g]
  refine hz _ (fun k hk => ?_) (fun c hc => ?_)
  · unfold va_up; exact if_neg hk
  · unfold va_up; rw [if_pos rfl]; exact q_cpy hc
theorem w_become {A : CA} {cg eg : Int32} {cw ew : Nat → Int32} {cV eV : Nat → Nat → Int32} {Z : Int32 → (Nat → Int32) → (Nat → Nat → Int32) → Prop} (he : cR A eg ew eV) (hz : ∀ w' V', cR A eg w' V' → Z eg w' V') : Wp_X0_become cg cw cV eg ew eV Z := by
  obtain ⟨h1, h2, h3⟩ := he
  refine w_takeOwners h2 (fun w' hw' => ?_)
  refine w_takeValues (g := 0) (by omega) (fun V0 a0 b0 => ?_)
  refine w_takeValues (g := 1) (by omega) (fun V1 a1 b1 => ?_)
  refine w_takeValues (g := 2) (by omega) (fun V2 a2 b2 => ?_)
  refine w_takeValues (g := 3) (by omega) (fun V3 a3 b3 => ?_)
  refine hz w' V3 ⟨h1, hw', fun g c hg hc => ?_⟩
  rcases (show g = 0 ∨ g = 1 ∨ g = 2 ∨ g = 3 by omega) with rfl | rfl | rfl | rfl
  · rw [a3 0 (by omega), a2 0 (by omega), a1 0 (by omega), b0 c hc]; exact h3 0 c hg hc
  · rw [a3 1 (by omega), a2 1 (by omega), b1 c hc]; exact h3 1 c hg hc
  · rw [a3 2 (by omega), b2 c hc]; exact h3 2 c hg hc
  · rw [b3 c hc]; exact h3 3 c hg hc
theorem w_record {k : Nat} {h : Nat → CA} {A : CA} {sq cg : Int32} {cw : Nat → Int32} {cV : Nat → Nat → Int32} {qg : Nat → Int32} {qw : Nat → Nat → Int32} {qV : Nat → Nat → Nat → Int32} {Z : Int32 → Int32 → (Nat → Int32) → (Nat → Nat → Int32) → (Nat → Nat → Nat → Int32) → Prop} (hk : k ≤ 5) (hA : cR A cg cw cV) (hH : cH k h qg qw qV) (hz : ∀ qg' qw' qV', cH (recK k) (recH k h A) qg' qw' qV' → Z (nI (recK k)) 0 qg' qw' qV') : Wp_X6_record (nI k) sq cg cw cV qg qw qV Z := by
  have last : ∀ (k' : Nat) (h' : Nat → CA) (qg : Nat → Int32) (qw : Nat → Nat → Int32) (qV : Nat → Nat → Nat → Int32), k' < 5 → cH k' h' qg qw qV → recK k = k' + 1 → recH k h A = up h' k' A → K_X6_record_12 cg cw cV Z (nI k') sq qg qw qV := by
    intro k' h' qg qw qV hk' hH' e1 e2
    refine ⟨q_in hk', ?_⟩
    rw [q_cl k', nI_1]
    refine w_become hA (fun w' V' hA' => ?_)
    have hz2 := hz (va_up qg k' cg) (va_up qw k' w') (va_up qV k' V')
    rw [e1, e2] at hz2
    refine hz2 (fun i hi => ?_)
    unfold va_up
    by_cases e : i = k'
    · subst e
      rw [up_s, if_pos rfl, if_pos rfl, if_pos rfl]
      exact hA'
    · rw [up_n e, if_neg e, if_neg e, if_neg e]
      exact hH' i (by omega)
  by_cases e : k = 5
  · subst e
    refine pk_lt 5 5 (fun q => absurd q (by omega)) (fun _ => ?_)
    refine last 4 (fun i => h (i + 1)) (zrot qg) (zrot qw) (zrot qV) (by omega) (fun i hi => ?_) rfl (if_pos rfl)
    unfold zrot
    rw [if_neg (by omega), if_neg (by omega), if_neg (by omega)]
    exact hH (i + 1) (by omega)
  · refine pk_lt k 5 (fun _ => ?_) (fun q => absurd q (by omega))
    exact last k h qg qw qV (by omega) hH (if_neg e) (if_neg e)
/-! the reference's writes -/
