/-! divisions, the reference: the rows, and the test without envy -/
theorem w7_layGuests {R uW : Nat → Int32} {n code : Nat} {Z : Int32 → (Nat → Int32) → Prop} (hn1 : 1 ≤ n) (hn : n ≤ 4) (hR : R 0 = nI n) (hc : code < 2 ^ 20) (hz : ∀ uW', rR (dg n code) uW' → Z (bI (decide (mk' (dg n code) 0 = 2 ^ n - 1))) uW') : Wp_X7_layGuests R uW (nI code) Z := by
  obtain ⟨l, hl⟩ : ∃ l, l = dg n code := ⟨_, rfl⟩
  have hlen : l.length = n := by rw [hl]; exact dg_len n code
  have hget : ∀ k, k < n → l.getD k 0 = code / 4 ^ (n - 1 - k) % 4 := fun k hk => by rw [hl]; exact dg_get hk
  have hlt : ∀ k, k < n → l.getD k 0 < 4 := fun k hk => by rw [hget k hk]; exact Nat.mod_lt _ (by omega)
  have e0 : R (0 : Int32).toNatClampNeg = nI n := hR
  have hp := q_pow n (by omega)
  rw [← hl] at hz
  have l14 : ∀ i uW', i ≤ n → (∀ j, i ≤ j → j < n → uW' j = nI (l.getD j 0)) → Wp_X7_layGuests_14 R (nI code) Z (nI (code / 4 ^ (n - i))) (nI (mk' (l.drop i) 0)) (oI i) uW' := by
    intro i
    induction i with
    | zero =>
      intro uW' _ hb
      refine F_X7_layGuests_14 _ _ _ _ _ _ _ ?_
      refine ⟨fun _ => ⟨q_in (k := 0) (by omega), ?_⟩, fun q => absurd (by decide) q⟩
      have e : l.drop 0 = l := rfl
      rw [e, e0, q_shl n (by omega)]
      have e1 : nI (2 ^ n) - 1 = nI (2 ^ n - 1) := pk_sub (b := 1) hp.1
      rw [e1]
      have hm : mk' l 0 < 32 := mk_lt _ 0 (by omega) (fun j hj => by have := hlt j (by omega); omega)
      have hz := hz uW' (fun j hj => hb j (by omega) (by omega))
      refine pq_ne _ _ (fun q => ?_) (fun q => ?_)
      · rw [decide_eq_false q] at hz
        exact hz
      · rw [decide_eq_true q] at hz
        exact hz
    | succ i ih =>
      intro uW' his hb
      refine F_X7_layGuests_14 _ _ _ _ _ _ _ ?_
      rw [oI_s]
      have hX : code / 4 ^ (n - (i + 1)) < 2 ^ 20 := Nat.lt_of_le_of_lt (Nat.div_le_self _ _) hc
      have e1 : nI (code / 4 ^ (n - (i + 1))) / 4 = nI (code / 4 ^ (n - i)) := by
        have : nI (code / 4 ^ (n - (i + 1))) / nI 4 = nI (code / 4 ^ (n - (i + 1)) / 4) := pk_div (by omega) (by omega) (by omega)
        refine this.trans ?_
        rw [Nat.div_div_eq_div_mul, ← Nat.pow_succ]
        congr 3
        omega
      have hg : l.getD i 0 = code / 4 ^ (n - (i + 1)) % 4 := by rw [hget i (by omega)]; congr 3; omega
      have e2 : nI (code / 4 ^ (n - (i + 1))) - nI (code / 4 ^ (n - (i + 1))) / 4 * 4 = nI (l.getD i 0) := by
        rw [hg]
        exact pk_rem (d := 4) (by omega) (by omega) (by omega)
      have hd : l.drop i = l.getD i 0 :: l.drop (i + 1) := by
        rw [hl, dg_drop (by omega), ← hl, hget i (by omega)]
      have hmk : mk' (l.drop (i + 1)) 0 < 32 := mk_lt _ 0 (by omega) (fun j hj => by
        have : (l.drop (i + 1)).getD j 0 = l.getD (i + 1 + j) 0 := by simp [List.getD_eq_getElem?_getD, List.getElem?_drop]
        rw [this]
        have := hlt (i + 1 + j) (by rw [List.length_drop] at hj; omega)
        omega)
      have e4 := hlt i (by omega)
      have e3 : mk' (l.drop i) 0 = mk' (l.drop (i + 1)) 0 ||| 2 ^ l.getD i 0 := by
        rw [hd]
        show mk' (l.drop (i + 1)) (0 ||| 2 ^ l.getD i 0) = _
        rw [mk_or, Nat.zero_or, Nat.or_comm]
      have e5 : nI i + (-1) = oI i := by
        cases i with
        | zero => rfl
        | succ i => exact q_down i
      refine ⟨fun q => absurd q (nI_nlt (b := 0) (Nat.zero_le _) (by omega)), fun _ => ⟨q_in (by omega), ?_⟩⟩
      rw [e2, e1, e5, q_cl i, pk_us, q_shl _ (by omega), (q_or _ hmk _ (by omega)).1, ← e3]
      refine ih _ (by omega) (fun j h1 h2 => ?_)
      by_cases e : j = i
      · subst e; exact pk_us
      · rw [pk_un (by omega)]
        exact hb j (by omega) h2
  have go := l14 n uW (Nat.le_refl n) (fun j h1 h2 => absurd h1 (by omega))
  have e1 : nI n - 1 = oI n := by
    rw [oI_pos (by omega)]
    exact pk_sub (b := 1) (by omega)
  have e2 : mk' (l.drop n) 0 = 0 := by rw [List.drop_eq_nil_of_le (by omega)]; rfl
  have e3 : code / 4 ^ (n - n) = code := by rw [Nat.sub_self, Nat.pow_zero, Nat.div_one]
  rw [e2, e3] at go
  unfold Wp_X7_layGuests
  rw [e0, e1]
  exact ⟨q_in (k := 0) (by omega), go⟩
def rF7 (c : List Nat) (uF : Nat → Int32) : Prop := ∀ k, k < 5 → uF k = nI (c.getD k 0)
theorem w7_wk {R : Nat → Int32} {v : Nat → Nat → Nat} {n : Nat} {c : List Nat} {g k : Nat} {Z : Int32 → Prop} (hc : okC n c = true) (hg : g < 4) (hk : k < n) (hV : mV v R) (hz : Z (nI (wk v c g k))) : Wp_X7_spanValue R (nI g) (nI (c.getD k 0)) (nI (c.getD (k + 1) 0)) Z := by
  obtain ⟨c1, c2, c3, c4, c5⟩ := okC_of hc
  exact w7_spanValue hg (c5 (k + 1)) hV (c2 k hk) hz
theorem w7_isCalm {R uF uW : Nat → Int32} {v : Nat → Nat → Nat} {n : Nat} {c l : List Nat} {Z : Int32 → Prop} (hn : n ≤ 4) (hv : okV v) (hR : R 0 = nI n) (hV : mV v R) (hc : okC n c = true) (hF : rF7 c uF) (hl : l.length = n) (hlt : ∀ i, i < n → l.getD i 0 < n) (hr : rR l uW) (hz : Z (bI (!envA v n c l n 0))) : Wp_X7_isCalm R uF uW Z := by
  have e0 : R (0 : Int32).toNatClampNeg = nI n := hR
  have l2 : ∀ d k, k + d = n → Z (bI (!envA v n c l d k)) → Wp_X7_isCalm_2 R uF uW Z (nI k) := by
    intro d
    induction d with
    | zero =>
      intro k hkd hz
      refine F_X7_isCalm_2 _ _ _ _ _ ?_
      refine ⟨q_in (k := 0) (by omega), ?_⟩
      rw [e0]
      exact pk_le n k (fun _ => hz) (fun q => absurd q (by omega))
    | succ d ih =>
      intro k hkd hz
      refine F_X7_isCalm_2 _ _ _ _ _ ?_
      have hk : k < n := by omega
      have a1 := hlt k hk
      have e9 : nI k + 1 = nI (k + 1) := by rw [nI_1]
      have b1 := wk_le (k := k) hv (show l.getD k 0 < 4 by omega) hc
      unfold B_X7_isCalm_2
      rw [e0, q_cl k, e9, q_cl (k + 1), hr k (by omega), hF k (by omega), hF (k + 1) (by omega)]
      refine ⟨q_in (k := 0) (by omega), pk_le n k (fun q => absurd q (by omega)) (fun _ => ⟨q_in (by omega), q_in (by omega), q_in (by omega), ?_⟩)⟩
      refine w7_wk hc (by omega) hk hV ?_
      have hz : Z (bI (!(enA v c l k n 0 || envA v n c l d (k + 1)))) := hz
      have l39 : ∀ e o, o + e = n → Z (bI (!(enA v c l k e o || envA v n c l d (k + 1)))) → Wp_X7_isCalm_39 R uF uW Z (nI k) (nI (wk v c (l.getD k 0) k)) (nI o) := by
        intro e
        induction e with
        | zero =>
          intro o hoe hz
          refine F_X7_isCalm_39 _ _ _ _ _ _ _ ?_
          refine ⟨q_in (k := 0) (by omega), ?_⟩
          rw [e0]
          refine pk_le n o (fun _ => ?_) (fun q => absurd q (by omega))
          rw [e9]
          exact ih (k + 1) (by omega) hz
        | succ e ihe =>
          intro o hoe hz
          refine F_X7_isCalm_39 _ _ _ _ _ _ _ ?_
          have e8 : nI o + 1 = nI (o + 1) := by rw [nI_1]
          have b2 := wk_le (k := o) hv (show l.getD k 0 < 4 by omega) hc
          unfold B_X7_isCalm_39
          rw [e0, q_cl k, e8, q_cl o, q_cl (o + 1), hr k (by omega), hF o (by omega), hF (o + 1) (by omega)]
          refine ⟨q_in (k := 0) (by omega), pk_le n o (fun q => absurd q (by omega)) (fun _ => ⟨q_in (by omega), q_in (by omega), q_in (by omega), ?_⟩)⟩
          refine w7_wk hc (by omega) (by omega) hV ?_
          have hz : Z (bI (!((decide (wk v c (l.getD k 0) k < wk v c (l.getD k 0) o) || enA v c l k e (o + 1)) || envA v n c l d (k + 1)))) := hz
          refine pk_le _ _ (fun q => ?_) (fun q => ?_)
          · rw [decide_eq_false (by omega), Bool.false_or] at hz
            exact ihe (o + 1) (by omega) hz
          · rw [decide_eq_true (by omega), Bool.true_or, Bool.true_or] at hz
            exact hz
      exact l39 n 0 (by omega) hz
  exact l2 n 0 (by omega) hz
