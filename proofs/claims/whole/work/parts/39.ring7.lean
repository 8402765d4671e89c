/-! the reference's rings; ring and exchange, class beside reference -/
theorem mk_or (l : List Nat) : ∀ t, mk' l t = t ||| mk' l 0 := by
  induction l with
  | nil => intro t; show t = t ||| 0; rw [Nat.or_zero]
  | cons a l ih =>
    intro t
    show mk' l (t ||| 2 ^ a) = t ||| mk' l (0 ||| 2 ^ a)
    rw [ih (t ||| 2 ^ a), ih (0 ||| 2 ^ a), Nat.zero_or, Nat.or_assoc]
theorem dg_len (s code : Nat) : (dg s code).length = s := by simp [dg]
theorem dg_get {s code k : Nat} (h : k < s) : (dg s code).getD k 0 = code / 4 ^ (s - 1 - k) % 4 := by
  simp [dg, List.getD_eq_getElem?_getD, h]
theorem dg_drop {s code k : Nat} (h : k < s) : (dg s code).drop k = (code / 4 ^ (s - 1 - k) % 4) :: (dg s code).drop (k + 1) := by
  have hk : k < (dg s code).length := by rw [dg_len]; exact h
  rw [List.drop_eq_getElem_cons hk]
  congr 1
  have := dg_get (code := code) h
  rw [List.getD_eq_getElem?_getD, List.getElem?_eq_getElem hk] at this
  exact this
def al (P : Nat → Bool) (l : List Nat) : Nat → Bool
  | 0 => true
  | k + 1 => al P l k && P (l.getD k 0)
theorem al_all (P : Nat → Bool) (l : List Nat) (h4 : l.length ≤ 4) : al P l l.length = l.all P := by
  match l, h4 with
  | [], _ => rfl
  | [a], _ => simp [al]
  | [a, b], _ => simp [al]
  | [a, b, c], _ => simp [al, Bool.and_assoc]
  | [a, b, c, d], _ => simp [al, Bool.and_assoc]
  | a :: b :: c :: d :: e :: l, h => simp at h
theorem mk_lt (l : List Nat) : ∀ t, t < 32 → (∀ i, i < l.length → l.getD i 0 < 5) → mk' l t < 32 := by
  induction l with
  | nil => intro t h _; exact h
  | cons a l ih =>
    intro t h h5
    refine ih _ (q_or t h a (h5 0 (by simp))).2 (fun i hi => ?_)
    have := h5 (i + 1) (by simp; omega)
    simpa using this
theorem w7_isRing {R uN : Nat → Int32} {v : Nat → Nat → Nat} {o : Nat → Nat} {n s code : Nat} {Z : Int32 → (Nat → Int32) → Prop} (hn : n ≤ 4) (hok : okO n o) (hv : okV v) (hm : mR 0 (n, o, v) R) (hs2 : 2 ≤ s) (hs4 : s ≤ 4) (hc : code < 2 ^ 20)
    (hz : ∀ uN', rR (dg s code) uN' → Z (bI (stat n s (dg s code) && isR (Eo v o) (dg s code))) uN') : Wp_X7_isRing R uN (nI code) (nI s) Z := by
  obtain ⟨l, hl⟩ : ∃ l, l = dg s code := ⟨_, rfl⟩
  have hlen : l.length = s := by rw [hl]; exact dg_len s code
  have hget : ∀ k, k < s → l.getD k 0 = code / 4 ^ (s - 1 - k) % 4 := fun k hk => by rw [hl]; exact dg_get hk
  have hlt : ∀ k, k < s → l.getD k 0 < 4 := fun k hk => by rw [hget k hk]; exact Nat.mod_lt _ (by omega)
  have e0 : R (0 : Int32).toNatClampNeg = nI n := hm.R0
  obtain ⟨M, hM⟩ : ∃ M, M = mk' l 0 := ⟨_, rfl⟩
  have hM32 : M < 32 := by rw [hM]; exact mk_lt l 0 (by omega) (fun i hi => by have := hlt i (by omega); omega)
  obtain ⟨P, hP⟩ : ∃ P : Nat → Bool, P = fun x => decide (x < n) && decide (l.headD 0 ≤ x) := ⟨_, rfl⟩
  have hhead : l.headD 0 = l.getD 0 0 := by cases l <;> rfl
  have hz : ∀ uN', rR l uN' → Z (bI (al P l s && (decide (sg (fun j => M / 2 ^ j % 2) 0 4 = s) && edg (Eo v o) l s s 0))) uN' := fun uN' h => by
    have e1 : al P l s = l.all P := by rw [← hlen]; exact al_all P l (by omega)
    have e2 : edg (Eo v o) l s s 0 = isR (Eo v o) l := by
      have := edg_isR (Eo v o) l (by omega) (by omega)
      rw [hlen] at this
      exact this
    have e3 : sg (fun j => M / 2 ^ j % 2) 0 4 = pop4 M := by simp [sg, pop4]
    have := hz uN' (by rw [← hl]; exact h)
    rw [e1, e2, e3, ← Bool.and_assoc]
    rw [← hl] at this
    unfold stat at this
    rw [hM, hP]
    exact this
  clear hm
  rename_i hm'
  have l174 : ∀ d i b uN', i + d = s → rR l uN' → al P l s = true → (∀ b2, (b2 = (b && edg (Eo v o) l s d i)) → Z (bI b2) uN') → Wp_X7_isRing_174 R (nI code) (nI s) Z (bI b) (nI i) uN' := by
    sorry
  sorry
