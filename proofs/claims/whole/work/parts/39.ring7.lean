/-! the reference's rings; ring and exchange, class beside reference -/
theorem mk_or (l : List Nat) : ∀ t, mk' l t = t ||| mk' l 0 := by
  induction l with
  | nil => intro t; show t = t ||| 0; rw [Nat.or_zero]
  | cons a l ih =>
    intro t
    show mk' l (t ||| 2 ^ a) = t ||| mk' l (0 ||| 2 ^ a)
    rw [ih (t ||| 2 ^ a), ih (0 ||| 2 ^ a), Nat.zero_or, Nat.or_assoc]
theorem dg_len (s code : Nat) : (dg s code).length = s := by simp [dg]
theorem dg_get {s code k : Nat} (h : k < s) : (dg s code).getD k 0 = code / 4 ^ (s - 1 - k) % 4 := by
  simp [dg, List.getD_eq_getElem?_getD, h]
theorem dg_drop {s code k : Nat} (h : k < s) : (dg s code).drop k = (code / 4 ^ (s - 1 - k) % 4) :: (dg s code).drop (k + 1) := by
  have hk : k < (dg s code).length := by rw [dg_len]; exact h
  rw [List.drop_eq_getElem_cons hk]
  congr 1
  have := dg_get (code := code) h
  rw [List.getD_eq_getElem?_getD, List.getElem?_eq_getElem hk] at this
  exact this
def al (P : Nat → Bool) (l : List Nat) : Nat → Bool
  | 0 => true
  | k + 1 => al P l k && P (l.getD k 0)
theorem al_all (P : Nat → Bool) (l : List Nat) (h4 : l.length ≤ 4) : al P l l.length = l.all P := by
  match l, h4 with
  | [], _ => rfl
  | [a], _ => simp [al]
  | [a, b], _ => simp [al]
  | [a, b, c], _ => simp [al, Bool.and_assoc]
  | [a, b, c, d], _ => simp [al, Bool.and_assoc]
  | a :: b :: c :: d :: e :: l, h => simp at h
theorem mk_lt (l : List Nat) : ∀ t, t < 32 → (∀ i, i < l.length → l.getD i 0 < 5) → mk' l t < 32 := by
  induction l with
  | nil => intro t h _; exact h
  | cons a l ih =>
    intro t h h5
    refine ih _ (q_or t h a (h5 0 (by simp))).2 (fun i hi => ?_)
    have := h5 (i + 1) (by simp; omega)
    simpa using this
theorem w7_isRing {R uN : Nat → Int32} {v : Nat → Nat → Nat} {o : Nat → Nat} {n s code : Nat} {Z : Int32 → (Nat → Int32) → Prop} (hn : n ≤ 4) (hok : okO n o) (hv : okV v) (hm : mR 0 (n, o, v) R) (hs2 : 2 ≤ s) (hs4 : s ≤ 4) (hc : code < 2 ^ 20)
    (hz : ∀ uN', rR (dg s code) uN' → Z (bI (stat n s (dg s code) && isR (Eo v o) (dg s code))) uN') : Wp_X7_isRing R uN (nI code) (nI s) Z := by
  obtain ⟨l, hl⟩ : ∃ l, l = dg s code := ⟨_, rfl⟩
  have hlen : l.length = s := by rw [hl]; exact dg_len s code
  have hget : ∀ k, k < s → l.getD k 0 = code / 4 ^ (s - 1 - k) % 4 := fun k hk => by rw [hl]; exact dg_get hk
  have hlt : ∀ k, k < s → l.getD k 0 < 4 := fun k hk => by rw [hget k hk]; exact Nat.mod_lt _ (by omega)
  have e0 : R (0 : Int32).toNatClampNeg = nI n := hm.R0
  obtain ⟨M, hM⟩ : ∃ M, M = mk' l 0 := ⟨_, rfl⟩
  have hM32 : M < 32 := by rw [hM]; exact mk_lt l 0 (by omega) (fun i hi => by have := hlt i (by omega); omega)
  obtain ⟨P, hP⟩ : ∃ P : Nat → Bool, P = fun x => decide (x < n) && decide (l.headD 0 ≤ x) := ⟨_, rfl⟩
  have hhead : l.headD 0 = l.getD 0 0 := by cases l <;> rfl
  have hz : ∀ uN', rR l uN' → Z (bI (al P l s && (decide (sg (fun j => M / 2 ^ j % 2) 0 4 = s) && edg (Eo v o) l s s 0))) uN' := fun uN' h => by
    have e1 : al P l s = l.all P := by rw [← hlen]; exact al_all P l (by omega)
    have e2 : edg (Eo v o) l s s 0 = isR (Eo v o) l := by
      have := edg_isR (Eo v o) l (by omega) (by omega)
      rw [hlen] at this
      exact this
    have e3 : sg (fun j => M / 2 ^ j % 2) 0 4 = pop4 M := by simp [sg, pop4]
    have := hz uN' (by rw [← hl]; exact h)
    rw [e1, e2, e3, ← Bool.and_assoc]
    rw [← hl] at this
    unfold stat at this
    rw [hM, hP]
    exact this
  have hbit : ∀ j, j < 5 → (nI M >>> (nI j &&& 31)) &&& 1 = nI (M / 2 ^ j % 2) := fun j hj => q_bit M hM32 j hj
  have hsum : ∀ j, j ≤ 4 → sg (fun j => M / 2 ^ j % 2) 0 j ≤ 4 := fun j hj => by
    have := sg_le (f := fun j => M / 2 ^ j % 2) (k := 1) j 0 (fun c _ _ => by have := Nat.mod_lt (M / 2 ^ c) (show 0 < 2 by omega); show M / 2 ^ c % 2 ≤ 1; omega)
    omega
  have l174 : ∀ d i b uN', i + d = s → rR l uN' → Z (bI (b && edg (Eo v o) l s d i)) uN' → Wp_X7_isRing_174 R (nI code) (nI s) Z (bI b) (nI i) uN' := by
    intro d
    induction d with
    | zero =>
      intro i b uN' hid hr hz
      refine F_X7_isRing_174 _ _ _ _ _ _ _ ?_
      refine pk_le s i (fun _ => ⟨nbb b, ?_⟩) (fun q => absurd q (by omega))
      have e : (b && edg (Eo v o) l s 0 i) = b := Bool.and_true b
      rw [e] at hz
      exact hz
    | succ d ih =>
      intro i b uN' hid hr hz
      refine F_X7_isRing_174 _ _ _ _ _ _ _ ?_
      refine pk_le s i (fun q => absurd q (by omega)) (fun _ => pb_eq (fun hb => ?_) (fun hb => ?_))
      · subst hb
        exact ⟨nbb false, hz⟩
      · subst hb
        have hnx : nx s i < s := by unfold nx; split <;> omega
        have e1 : (nI i + 1) - (nI i + 1) / nI s * nI s = nI (nx s i) := by
          rw [nI_1, pk_rem (by omega) (by omega) (by omega)]
          congr 1
          unfold nx
          split
          · exact Nat.mod_eq_of_lt (by omega)
          · have : i + 1 = s := by omega
            rw [this, Nat.mod_self]
        rw [e1, q_cl i, q_cl (nx s i), hr i (by omega), hr _ (by omega)]
        refine ⟨q_in (by omega), fun q => absurd ((nI_eq (b := 0) (by omega) (by omega)).mp q) (by omega), q_in (by omega), ?_⟩
        have b1 := En_le (o := o) (k := l.getD (nx s i) 0) hv (hlt i (by omega))
        refine w7_envyOf hn hok hv (hlt i (by omega)) (hlt _ hnx) hm.O hm.V ?_
        have step : edg (Eo v o) l s (d + 1) i = (decide (0 < En v o (l.getD i 0) (l.getD (nx s i) 0)) && edg (Eo v o) l s d (i + 1)) := rfl
        rw [step, Bool.true_and] at hz
        rw [nI_1]
        refine pk_le _ 0 (fun q => ?_) (fun q => ?_)
        · refine ih (i + 1) false uN' (by omega) hr ?_
          rw [decide_eq_false (by omega)] at hz
          exact hz
        · refine ih (i + 1) true uN' (by omega) hr ?_
          rw [decide_eq_true (by omega)] at hz
          exact hz
  have l129 : ∀ d j b uN', j + d = 4 → rR l uN' → Z (bI ((b && decide (sg (fun j => M / 2 ^ j % 2) 0 4 = s)) && edg (Eo v o) l s s 0)) uN' → Wp_X7_isRing_129 R (nI code) (nI s) Z (nI M) (nI (sg (fun j => M / 2 ^ j % 2) 0 j)) (bI b) (nI j) uN' := by
    intro d
    induction d with
    | zero =>
      intro j b uN' hjd hr hz
      refine F_X7_isRing_129 _ _ _ _ _ _ _ _ _ ?_
      have hj : j = 4 := by omega
      subst hj
      have hs1 := hsum 4 (by omega)
      refine pk_le 4 4 (fun _ => pb_eq (fun hb => ?_) (fun hb => ?_)) (fun q => absurd q (by omega))
      · subst hb
        exact l174 s 0 false uN' (by omega) hr hz
      · subst hb
        rw [Bool.true_and] at hz
        refine pq_ne _ s (fun q => ?_) (fun q => ?_)
        · rw [decide_eq_false q] at hz
          exact l174 s 0 false uN' (by omega) hr hz
        · rw [decide_eq_true q] at hz
          exact l174 s 0 true uN' (by omega) hr hz
    | succ d ih =>
      intro j b uN' hjd hr hz
      refine F_X7_isRing_129 _ _ _ _ _ _ _ _ _ ?_
      refine pk_le 4 j (fun q => absurd q (by omega)) (fun _ => ?_)
      have e : nI (sg (fun j => M / 2 ^ j % 2) 0 j) + nI (M / 2 ^ j % 2) = nI (sg (fun j => M / 2 ^ j % 2) 0 (j + 1)) := by
        rw [nI_add, sg_last, Nat.zero_add]
      rw [hbit j (by omega), e, nI_1]
      exact ih (j + 1) b uN' (by omega) hr hz
  have l58 : ∀ d j uN', j + d = s → rR l uN' → Wp_X7_isRing_58 R (nI code) (nI s) Z (nI M) (nI (sg (fun j => M / 2 ^ j % 2) 0 j)) (bI (al P l j)) (nI j) uN' := by
    intro d
    induction d with
    | zero =>
      intro j uN' hjd hr
      refine F_X7_isRing_58 _ _ _ _ _ _ _ _ _ ?_
      have hj : j = s := by omega
      subst hj
      refine pk_le j j (fun _ => ?_) (fun q => absurd q (by omega))
      refine l129 (4 - j) j _ uN' (by omega) hr ?_
      rw [Bool.and_assoc]
      exact hz uN' hr
    | succ d ih =>
      intro j uN' hjd hr
      refine F_X7_isRing_58 _ _ _ _ _ _ _ _ _ ?_
      have e : nI (sg (fun j => M / 2 ^ j % 2) 0 j) + nI (M / 2 ^ j % 2) = nI (sg (fun j => M / 2 ^ j % 2) 0 (j + 1)) := by
        rw [nI_add, sg_last, Nat.zero_add]
      unfold B_X7_isRing_58
      rw [hbit j (by omega), e, nI_1]
      have go := ih (j + 1) uN' (by omega) hr
      have st : al P l (j + 1) = (al P l j && (decide (l.getD j 0 < n) && decide (l.getD 0 0 ≤ l.getD j 0))) := by
        show (al P l j && P (l.getD j 0)) = _
        rw [hP, hhead]
      rw [st] at go
      refine pk_le s j (fun q => absurd q (by omega)) (fun _ => pb_eq (fun hb => ?_) (fun hb => ?_))
      · rw [hb] at go
        exact go
      · rw [hb, Bool.true_and] at go
        rw [e0, q_cl j, hr j (by omega)]
        have a1 := hlt j (by omega)
        have a2 := hlt 0 (by omega)
        refine ⟨q_in (by omega), q_in (k := 0) (by omega), ?_⟩
        refine pk_le n _ (fun q => ?_) (fun q => ⟨q_in (k := 0) (by omega), ?_⟩)
        · rw [decide_eq_false (by omega)] at go
          exact go
        · rw [decide_eq_true (by omega), Bool.true_and] at go
          have e00 : uN' (0 : Int32).toNatClampNeg = nI (l.getD 0 0) := hr 0 (by omega)
          rw [e00]
          refine pk_lt _ _ (fun q2 => ?_) (fun q2 => ?_)
          · rw [decide_eq_false (by omega)] at go
            exact go
          · rw [decide_eq_true (by omega)] at go
            exact go
  have l10 : ∀ i uN', i ≤ s → (∀ j, i ≤ j → j < s → uN' j = nI (l.getD j 0)) → Wp_X7_isRing_10 R (nI code) (nI s) Z (nI (code / 4 ^ (s - i))) (nI (mk' (l.drop i) 0)) (oI i) uN' := by
    intro i
    induction i with
    | zero =>
      intro uN' _ hb
      refine F_X7_isRing_10 _ _ _ _ _ _ _ _ ?_
      refine ⟨fun _ => ?_, fun q => absurd (by decide) q⟩
      have e : mk' (l.drop 0) 0 = M := by rw [hM]; rfl
      rw [e]
      exact l58 s 0 uN' (by omega) (fun j hj => hb j (by omega) (by omega))
    | succ i ih =>
      intro uN' his hb
      refine F_X7_isRing_10 _ _ _ _ _ _ _ _ ?_
      rw [oI_s]
      have hX : code / 4 ^ (s - (i + 1)) < 2 ^ 20 := Nat.lt_of_le_of_lt (Nat.div_le_self _ _) hc
      have e1 : nI (code / 4 ^ (s - (i + 1))) / 4 = nI (code / 4 ^ (s - i)) := by
        have : nI (code / 4 ^ (s - (i + 1))) / nI 4 = nI (code / 4 ^ (s - (i + 1)) / 4) := pk_div (by omega) (by omega) (by omega)
        refine this.trans ?_
        rw [Nat.div_div_eq_div_mul, ← Nat.pow_succ]
        congr 3
        omega
      have hg : l.getD i 0 = code / 4 ^ (s - (i + 1)) % 4 := by rw [hget i (by omega)]; congr 3; omega
      have e2 : nI (code / 4 ^ (s - (i + 1))) - nI (code / 4 ^ (s - (i + 1))) / 4 * 4 = nI (l.getD i 0) := by
        rw [hg]
        exact pk_rem (d := 4) (by omega) (by omega) (by omega)
      have hd : l.drop i = l.getD i 0 :: l.drop (i + 1) := by
        rw [hl, dg_drop (by omega), ← hl, hget i (by omega)]
      have hmk : mk' (l.drop (i + 1)) 0 < 32 := mk_lt _ 0 (by omega) (fun j hj => by
        have : (l.drop (i + 1)).getD j 0 = l.getD (i + 1 + j) 0 := by simp [List.getD_eq_getElem?_getD, List.getElem?_drop]
        rw [this]
        have := hlt (i + 1 + j) (by rw [List.length_drop] at hj; omega)
        omega)
      have e4 := hlt i (by omega)
      have e3 : mk' (l.drop i) 0 = mk' (l.drop (i + 1)) 0 ||| 2 ^ l.getD i 0 := by
        rw [hd]
        show mk' (l.drop (i + 1)) (0 ||| 2 ^ l.getD i 0) = _
        rw [mk_or, Nat.zero_or, Nat.or_comm]
      have e5 : nI i + (-1) = oI i := by
        cases i with
        | zero => rfl
        | succ i => exact q_down i
      refine ⟨fun q => absurd q (nI_nlt (b := 0) (Nat.zero_le _) (by omega)), fun _ => ⟨q_in (by omega), ?_⟩⟩
      rw [e2, e1, e5, q_cl i, pk_us, q_shl _ (by omega), (q_or _ hmk _ (by omega)).1, ← e3]
      refine ih _ (by omega) (fun j h1 h2 => ?_)
      by_cases e : j = i
      · subst e; exact pk_us
      · rw [pk_un (by omega)]
        exact hb j (by omega) h2
  have go := l10 s uN (Nat.le_refl s) (fun j h1 h2 => absurd h1 (by omega))
  have e1 : nI s - 1 = oI s := by
    rw [oI_pos (by omega)]
    exact pk_sub (b := 1) (by omega)
  have e2 : mk' (l.drop s) 0 = 0 := by rw [List.drop_eq_nil_of_le (by omega)]; rfl
  have e3 : code / 4 ^ (s - s) = code := by rw [Nat.sub_self, Nat.pow_zero, Nat.div_one]
  rw [e2, e3] at go
  unfold Wp_X7_isRing
  rw [e1]
  exact go
theorem bI_if (b : Bool) : bI b = 1 ∨ bI b = 0 := by cases b <;> simp [bI]
theorem flt_mem (n s : Nat) : ∀ d c l, l ∈ flt n s d c → ∃ code, l = dg s code
  | 0, _, _, h => by cases h
  | d + 1, c, l, h => by
    unfold flt at h
    split at h
    · rcases List.mem_cons.mp h with rfl | h
      · exact ⟨c, rfl⟩
      · exact flt_mem n s d (c + 1) l h
    · exact flt_mem n s d (c + 1) l h
theorem w7_layRing {R uN : Nat → Int32} {v : Nat → Nat → Nat} {o : Nat → Nat} {n : Nat} {Z : Int32 → (Nat → Int32) → Prop} (hn : n ≤ 4) (hok : okO n o) (hv : okV v) (hm : mR 0 (n, o, v) R)
    (h1 : ∀ l uN', ringA (Eo v o) n = some l → rR l uN' → Z (nI l.length) uN') (h0 : ringA (Eo v o) n = none → ∀ uN', Z 0 uN') : Wp_X7_layRing R uN Z := by
  have e0 : R (0 : Int32).toNatClampNeg = nI n := hm.R0
  have sizes : ∀ d s uN, s + d = n + 1 ∨ (d = 0 ∧ n < s ∧ s < 100) → 2 ≤ s → (∀ l, rgA (Eo v o) n d s = some l → ringA (Eo v o) n = some l) → (rgA (Eo v o) n d s = none → ringA (Eo v o) n = none) → Wp_X7_layRing_2 R Z (nI s) uN := by
    intro d
    induction d with
    | zero =>
      intro s uN hsd hs2 g1 g0
      refine F_X7_layRing_2 _ _ _ _ ?_
      refine ⟨q_in (k := 0) (by omega), ?_⟩
      rw [e0]
      exact pk_lt n s (fun _ => h0 (g0 rfl) _) (fun q => absurd q (by omega))
    | succ d ih =>
      intro s uN hsd hs2 g1 g0
      refine F_X7_layRing_2 _ _ _ _ ?_
      refine ⟨q_in (k := 0) (by omega), ?_⟩
      rw [e0]
      have hs4 : s ≤ 4 := by omega
      have hp : 4 ^ s ≤ 256 := by
        rcases (show s = 2 ∨ s = 3 ∨ s = 4 by omega) with rfl | rfl | rfl <;> decide
      unfold rgA at g1 g0
      have hfind : (Lr n s).find? (isR (Eo v o)) = (flt n s (4 ^ s) 0).find? (isR (Eo v o)) := ck_find _ _ _ _ (Lr_flt n (by omega) s (by omega) hs2 (by omega)) (fun x hx => by cases hx)
      have codes : ∀ e c uN, c + e = 4 ^ s → (Lr n s).find? (isR (Eo v o)) = (flt n s e c).find? (isR (Eo v o)) → Wp_X7_layRing_38 R Z (nI s) (nI (4 ^ s)) (nI c) uN := by
        intro e
        induction e with
        | zero =>
          intro c uN hce hf
          refine F_X7_layRing_38 _ _ _ _ _ _ ?_
          refine pk_le (4 ^ s) c (fun _ => ?_) (fun q => absurd q (by omega))
          rw [hf] at g1 g0
          rw [nI_1]
          exact ih (s + 1) uN (by omega) (by omega) g1 g0
        | succ e ihe =>
          intro c uN hce hf
          refine F_X7_layRing_38 _ _ _ _ _ _ ?_
          refine pk_le (4 ^ s) c (fun q => absurd q (by omega)) (fun _ => ?_)
          refine w7_isRing hn hok hv hm hs2 hs4 (by omega) (fun uN' hr => ?_)
          unfold flt at hf
          refine pb_eq (fun hb => ?_) (fun hb => ?_)
          · rw [nI_1]
            refine ihe (c + 1) uN' (by omega) ?_
            cases hst : stat n s (dg s c) with
            | false => rw [hst] at hf; exact hf
            | true =>
              rw [hst] at hf hb
              rw [Bool.true_and] at hb
              rw [hf]
              show List.find? _ (dg s c :: flt n s e (c + 1)) = _
              rw [List.find?_cons, hb]
          · rw [Bool.and_eq_true] at hb
            rw [hb.1] at hf
            have hf2 : (Lr n s).find? (isR (Eo v o)) = some (dg s c) := by
              rw [hf]
              show List.find? _ (dg s c :: flt n s e (c + 1)) = _
              rw [List.find?_cons, hb.2]
            rw [hf2] at g1
            have := h1 (dg s c) uN' (g1 _ rfl) hr
            rw [dg_len] at this
            exact this
      refine pk_lt n s (fun q => absurd q (by omega)) (fun _ => ?_)
      have start := codes (4 ^ s) 0 uN (by omega) hfind
      refine pq_ne s 2 (fun q2 => pq_ne s 3 (fun q3 => ?_) (fun q3 => ?_)) (fun q2 => ?_)
      · have : s = 4 := by omega
        subst this
        exact start
      · subst q3; exact start
      · subst q2; exact start
  by_cases hn1 : 1 ≤ n
  · exact sizes (n - 1) 2 uN (Or.inl (by omega)) (Nat.le_refl 2) (fun l h => h) (fun h => h)
  · have e : n = 0 := by omega
    subst e
    exact sizes 0 2 uN (Or.inr ⟨rfl, by omega, by omega⟩) (Nat.le_refl 2) (fun l h => h) (fun h => h)
theorem rgA_mem {E : Nat → Nat → Bool} {n : Nat} {l : List Nat} : ∀ d s, s + d ≤ n + 1 → rgA E n d s = some l → ∃ s', s ≤ s' ∧ s' ≤ n ∧ l ∈ Lr n s'
  | 0, _, _, h => by cases h
  | d + 1, s, hs, h => by
    unfold rgA at h
    split at h
    · rename_i l' e
      cases h
      exact ⟨s, Nat.le_refl s, by omega, List.mem_of_find?_eq_some e⟩
    · obtain ⟨s', h1, h2, h3⟩ := rgA_mem d (s + 1) (by omega) h
      exact ⟨s', by omega, h2, h3⟩
theorem ringA_mem {E : Nat → Nat → Bool} {n : Nat} {l : List Nat} (h : ringA E n = some l) : ∃ s, 2 ≤ s ∧ s ≤ n ∧ l ∈ Lr n s := by
  by_cases hn : n = 0
  · subst hn; cases h
  · exact rgA_mem (n - 1) 2 (by omega) h
theorem ringA_len {E : Nat → Nat → Bool} {n : Nat} {l : List Nat} (hn : n ≤ 4) (h : ringA E n = some l) : 2 ≤ l.length ∧ l.length ≤ n ∧ ∀ i, i < l.length → l.getD i 0 < n := by
  obtain ⟨s, h1, h2, h3⟩ := ringA_mem h
  have hl := chn_rows n s _ (Lr_chn n (by omega) s (by omega) h1 h2).1 l h3
  have hlt := List.all_eq_true.mp (Lr_lt n (by omega) s (by omega) h1 h2) l h3
  exact ⟨by omega, by omega, fun i hi => all_getD hlt hi⟩
