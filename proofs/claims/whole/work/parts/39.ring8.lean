/-! ring and exchange, class beside reference -/
def psr (l : List Nat) (x : Nat) : Nat → Nat → Nat
  | 0, i => i
  | d + 1, i => if l.getD i 0 + 1 = x then i else psr l x d (i + 1)
/-- the new owner of a crumb of x, the ring l given -/
def xo (l : List Nat) (x : Nat) : Nat := if l.length ≤ psr l x l.length 0 then x else if psr l x l.length 0 = 0 then l.getD (l.length - 1) 0 + 1 else l.getD (psr l x l.length 0 - 1) 0 + 1
def xf (l : List Nat) (x : Nat) : Nat → Nat → Nat → Nat
  | 0, _, y => y
  | d + 1, i, y => xf l x d (i + 1) (if l.getD (nx l.length i) 0 + 1 = x then l.getD i 0 + 1 else y)
theorem xf_rows : ∀ n, n < 5 → ∀ s, s < 5 → 2 ≤ s → s ≤ n → (Lr n s).all (fun l => (List.range 6).all (fun x => decide (xf l x l.length 0 x = xo l x))) = true := by decide +kernel
theorem xf_xo {E : Nat → Nat → Bool} {n : Nat} {l : List Nat} (hn : n ≤ 4) (h : ringA E n = some l) {x : Nat} (hx : x < 6) : xf l x l.length 0 x = xo l x := by
  obtain ⟨s, h1, h2, h3⟩ := ringA_mem h
  have h4 := List.all_eq_true.mp (xf_rows n (by omega) s (by omega) h1 h2) l h3
  exact of_decide_eq_true (List.all_eq_true.mp h4 x (List.mem_range.mpr hx))
theorem psr_le (l : List Nat) (x : Nat) : ∀ d i, psr l x d i ≤ i + d
  | 0, i => Nat.le_refl i
  | d + 1, i => by
    unfold psr
    split
    · omega
    · have := psr_le l x d (i + 1)
      omega
theorem xo_ok {n : Nat} {l : List Nat} (h : ∀ i, i < l.length → l.getD i 0 < n) {x : Nat} (hx : x ≤ n) : xo l x ≤ n := by
  unfold xo
  split
  · exact hx
  · split
    · have := h (l.length - 1) (by omega)
      omega
    · have := h (psr l x l.length 0 - 1) (by omega)
      omega
theorem w_placeOf {rT : Nat → Int32} {l : List Nat} {n x : Nat} {Z : Int32 → Prop} (hn : n ≤ 4) (h4 : l.length ≤ 4) (hl : rR l rT) (hln : ∀ i, i < l.length → l.getD i 0 < n) (hx : x ≤ n) (hz : Z (nI (psr l x l.length 0))) : Wp_X4_placeOf rT (nI l.length) (oI x) Z := by
  have key : ∀ d i, i + d = l.length → Z (nI (psr l x d i)) → Wp_X4_placeOf_2 rT (nI l.length) (oI x) Z (nI i) := by
    intro d
    induction d with
    | zero =>
      intro i hid hz
      refine F_X4_placeOf_2 _ _ _ _ _ ?_
      have e : i = l.length := by omega
      subst e
      exact pk_le l.length l.length (fun _ => hz) (fun q => absurd q (by omega))
    | succ d ih =>
      intro i hid hz
      refine F_X4_placeOf_2 _ _ _ _ _ ?_
      refine pk_le l.length i (fun q => absurd q (by omega)) (fun _ => ⟨q_in (by omega), ?_⟩)
      have a1 := hln i (by omega)
      rw [q_cl i, hl i (by omega), nI_1]
      unfold psr at hz
      refine po_ne (l.getD i 0 + 1) x (fun q => ?_) (fun q => ?_) rfl rfl
      · rw [if_neg q] at hz
        exact ih (i + 1) (by omega) hz
      · rw [if_pos q] at hz
        exact hz
  exact key l.length 0 (by omega) hz
theorem w_passPieces {cw rT : Nat → Int32} {l : List Nat} {o : Nat → Nat} {n : Nat} {Z : (Nat → Int32) → Prop} (hn : n ≤ 4) (h1 : 1 ≤ l.length) (h4 : l.length ≤ 4) (hl : rR l rT) (hln : ∀ i, i < l.length → l.getD i 0 < n) (hok : okO n o) (hW : rW o cw) (hz : ∀ cw', rW (fun c => xo l (o c)) cw' → Z cw') : Wp_X0_passPieces cw rT (nI l.length) Z := by
  have key : ∀ d c cw', c + d = 24 → (∀ j, j < c → cw' j = oI (xo l (o j))) → (∀ j, c ≤ j → j < 24 → cw' j = oI (o j)) → Wp_X0_passPieces_2 rT (nI l.length) Z (nI c) cw' := by
    intro d
    induction d with
    | zero =>
      intro c cw' hcd hb ha
      refine F_X0_passPieces_2 _ _ _ _ _ ?_
      exact pk_le 24 c (fun _ => hz cw' (fun j hj => hb j (by omega))) (fun q => absurd q (by omega))
    | succ d ih =>
      intro c cw' hcd hb ha
      refine F_X0_passPieces_2 _ _ _ _ _ ?_
      have hc : c < 24 := by omega
      have h1c := hok c hc
      have hps := psr_le l (o c) l.length 0
      refine pk_le 24 c (fun q => absurd q (by omega)) (fun _ => ⟨q_in (by omega), ?_⟩)
      rw [q_cl c, ha c (Nat.le_refl c) hc]
      refine w_placeOf hn h4 hl hln h1c ?_
      rw [nI_1]
      have step : ∀ x, x = oI (xo l (o c)) → Wp_X0_passPieces_2 rT (nI l.length) Z (nI (c + 1)) (upd cw' c x) := fun x hx => by
        refine ih (c + 1) _ (by omega) (fun j hj => ?_) (fun j j1 j2 => ?_)
        · by_cases e : j = c
          · subst e; rw [pk_us]; exact hx
          · rw [pk_un (by omega)]; exact hb j (by omega)
        · rw [pk_un (by omega)]; exact ha j (by omega) j2
      refine pk_le l.length _ (fun q => ?_) (fun q => ?_)
      · refine ih (c + 1) cw' (by omega) (fun j hj => ?_) (fun j j1 j2 => ha j (by omega) j2)
        by_cases e : j = c
        · subst e
          rw [ha j (Nat.le_refl j) hc]
          unfold xo
          rw [if_pos q]
        · exact hb j (by omega)
      · have a1 := hln (l.length - 1) (by omega)
        refine pq_ne _ 0 (fun q2 => ?_) (fun q2 => ?_)
        · have e1 : nI (psr l (o c) l.length 0) - 1 = nI (psr l (o c) l.length 0 - 1) := pk_sub (b := 1) (by omega)
          rw [e1, q_cl _ (by omega), hl _ (by omega)]
          refine ⟨q_in (by omega), step _ ?_⟩
          unfold xo
          rw [if_neg (by omega), if_neg q2]
          rfl
        · have e1 : nI l.length - 1 = nI (l.length - 1) := pk_sub (b := 1) (by omega)
          rw [e1, q_cl _ (by omega), hl _ (by omega)]
          refine ⟨q_in (by omega), step _ ?_⟩
          unfold xo
          rw [if_neg (by omega), if_pos q2]
          rfl
  exact key 24 0 cw (by omega) (fun j hj => absurd hj (by omega)) (fun j _ hj => hW j hj)
theorem w7_passes {R0 R uN : Nat → Int32} {uk : Int32} {l : List Nat} {o : Nat → Nat} {n : Nat} {E : Nat → Nat → Bool} {Z : Int32 → (Nat → Int32) → Int32 → (Nat → Int32) → Prop} (hn : n ≤ 4) (hl : rR l uN) (hr : ringA E n = some l) (hok : okO n o) (hO : mO o R) (hf : fO R0 R) (hz : ∀ R', mO (fun c => xo l (o c)) R' → fO R0 R' → Z (nI l.length) R' uk uN) : Wp_X7_exchange_18 Z (nI l.length) 0 R uk uN := by
  obtain ⟨l2, l4, hln⟩ := ringA_len hn hr
  have outer : ∀ d c o1 R, c + d = 24 → (∀ j, j < c → o1 j = xo l (o j)) → (∀ j, c ≤ j → j < 24 → o1 j = o j) → mO o1 R → fO R0 R → Wp_X7_exchange_18 Z (nI l.length) (nI c) R uk uN := by
    intro d
    induction d with
    | zero =>
      intro c o1 R hcd hb ha hO hf
      refine F_X7_exchange_18 _ _ _ _ _ _ ?_
      refine pk_le 24 c (fun _ => hz R (fun j hj => ?_) hf) (fun q => absurd q (by omega))
      rw [hO j hj, hb j (by omega)]
    | succ d ih =>
      intro c o1 R hcd hb ha hO hf
      refine F_X7_exchange_18 _ _ _ _ _ _ ?_
      have hc : c < 24 := by omega
      have h1c := hok c hc
      unfold B_X7_exchange_18
      rw [ix_o c, q_cl (1 + c)]
      refine pk_le 24 c (fun q => absurd q (by omega)) (fun _ => ⟨q_in (by omega), ?_⟩)
      rw [hO c hc, ha c (Nat.le_refl c) hc]
      have inner : ∀ e i y o1 R, i + e = l.length → xf l (o c) e i y = xo l (o c) → (∀ j, j < c → o1 j = xo l (o j)) → (∀ j, c + 1 ≤ j → j < 24 → o1 j = o j) → o1 c = y → mO o1 R → fO R0 R → Wp_X7_exchange_36 Z (nI l.length) (nI c) (oM (o c)) (nI i) R uk uN := by
        intro e
        induction e with
        | zero =>
          intro i y o1 R hie hx hb ha hy hO hf
          refine F_X7_exchange_36 _ _ _ _ _ _ _ _ ?_
          refine pk_le l.length i (fun _ => ?_) (fun q => absurd q (by omega))
          rw [nI_1]
          refine ih (c + 1) o1 R (by omega) (fun j hj => ?_) ha hO hf
          by_cases e : j = c
          · subst e; rw [hy]; exact hx
          · exact hb j (by omega)
        | succ e ihe =>
          intro i y o1 R hie hx hb ha hy hO hf
          refine F_X7_exchange_36 _ _ _ _ _ _ _ _ ?_
          have hi : i < l.length := by omega
          have hnx : nx l.length i < l.length := by unfold nx; split <;> omega
          have e1 : (nI i + 1) - (nI i + 1) / nI l.length * nI l.length = nI (nx l.length i) := by
            rw [nI_1, pk_rem (by omega) (by omega) (by omega)]
            congr 1
            unfold nx
            split
            · exact Nat.mod_eq_of_lt (by omega)
            · have : i + 1 = l.length := by omega
              rw [this, Nat.mod_self]
          have e9 : nI i + 1 = nI (i + 1) := by rw [nI_1]
          have a1 := hln i hi
          have a2 := hln _ hnx
          unfold B_X7_exchange_36
          rw [e1, ix_o c, q_cl (1 + c), q_cl (nx l.length i), q_cl i, hl _ hnx, hl i hi, hO c hc, e9]
          have step : ∀ y', xf l (o c) e (i + 1) y' = xo l (o c) → ∀ x, x = oM y' → Wp_X7_exchange_36 Z (nI l.length) (nI c) (oM (o c)) (nI (i + 1)) (upd R (1 + c) x) uk uN := fun y' hx' x hxy => by
            subst hxy
            exact ihe (i + 1) y' (up o1 c y') _ (by omega) hx' (fun j hj => by rw [up_n (by omega)]; exact hb j hj) (fun j j1 j2 => by rw [up_n (by omega)]; exact ha j j1 j2) (up_s _ _ _) (mO_up hO) (fO_up hc hf)
          refine pk_le l.length i (fun q => absurd q (by omega)) (fun _ => ⟨fun q => absurd ((nI_eq (b := 0) (by omega) (by omega)).mp q) (by omega), q_in (by omega), ?_⟩)
          unfold xf at hx
          refine pm_ne (o c) (l.getD (nx l.length i) 0 + 1) (fun q => ⟨q_in (by omega), ?_⟩) (fun q => ⟨q_in (by omega), q_in (by omega), ?_⟩) rfl rfl
          · rw [if_neg (by omega)] at hx
            exact step y hx (oM (o1 c)) (by rw [hy])
          · rw [if_pos (by omega)] at hx
            exact step _ hx _ rfl
      exact inner l.length 0 (o c) o1 R (by omega) (xf_xo hn hr (by omega)) hb (fun j j1 j2 => ha j (by omega) j2) (ha c (Nat.le_refl c) hc) hO hf
  exact outer 24 0 o R (by omega) (fun j hj => absurd hj (by omega)) (fun _ _ _ => rfl) hO hf
section RINGS
variable {A : CA} {k : Nat} {h : Nat → CA} {ss sq cg : Int32} {cw : Nat → Int32} {cV : Nat → Nat → Int32} {qg : Nat → Int32} {qw : Nat → Nat → Int32} {qV : Nat → Nat → Nat → Int32} {uR : Nat → Int32} {uk : Int32} {nE nrT : Nat → Int32} {nrs nrg : Int32} {uN : Nat → Int32}
theorem op_ring (hS : St A k h ss cg cw cV qg qw qV uR uk) (x1 : Int32) : Wp_X6_ring cg cw cV nE nrT nrs nrg x1 (fun r nE' nrT' nrs' nrg' => Wp_X7_ring uR uN x1 (fun r' uN' => r = r')) := by
  obtain ⟨⟨hn, ho', hv⟩, hk, hh, -, ⟨hcg, hcw, hcV⟩, hcH, hmR, -, hmH⟩ := hS
  obtain ⟨n, o, v⟩ := A
  have hcg : cg = nI n := hcg
  subst hcg
  have hn : n ≤ 4 := hn
  have ho' : okO n o := ho'
  have hv : okV v := hv
  by_cases hx : (0 : Int32) ≤ x1
  · refine ⟨fun _ => ?_, fun q => absurd hx q⟩
    have hx0 : ¬ x1 < 0 := fun q => Int32.lt_irrefl (Int32.lt_of_lt_of_le q hx)
    obtain ⟨P, hP, rfl⟩ := nI_of hx0
    refine w_find hn ho' hv hcw hcV (fun l nE' rT' rg' hl hr => ?_) (fun hl nE' rT' rs' rg' => ?_)
    · obtain ⟨l2, l4, hln⟩ := ringA_len hn hl
      have both : ∀ (Z : Int32 → (Nat → Int32) → Prop), (∀ uN', rR l uN' → ((nI l.length ≤ nI P → Z (-9) uN') ∧ (¬ nI l.length ≤ nI P → vp_in (nI P) 4 ∧ Z (uN' (nI P).toNatClampNeg) uN'))) → Wp_X7_ring uR uN (nI P) Z := fun Z hZ => by
        refine ⟨fun _ => ?_, fun q => absurd hx q⟩
        refine w7_layRing hn ho' hv hmR (fun l' uN' hl' hr' => ?_) (fun hl' => by rw [hl] at hl'; cases hl')
        rw [hl] at hl'
        cases hl'
        exact hZ uN' hr'
      refine pk_le l.length P (fun q => ?_) (fun q => ⟨q_in (by omega), ?_⟩) rfl rfl (by omega) hP
      · exact both _ (fun uN' _ => pk_le l.length P (fun _ => rfl) (fun q2 => absurd q2 (by omega)) rfl rfl (by omega) hP)
      · refine both _ (fun uN' hr' => pk_le l.length P (fun q2 => absurd q2 (by omega)) (fun _ => ⟨q_in (by omega), ?_⟩) rfl rfl (by omega) hP)
        rw [q_cl P hP, hr P q, hr' P q]
    · have fin : Wp_X7_ring uR uN (nI P) (fun r' uN' => -9 = r') := by
        refine ⟨fun _ => ?_, fun q => absurd hx q⟩
        refine w7_layRing hn ho' hv hmR (fun l' uN' hl' hr' => by rw [hl] at hl'; cases hl') (fun _ uN' => ?_)
        exact pk_le 0 P (fun _ => rfl) (fun q2 => absurd q2 (by omega)) rfl rfl (by omega) hP
      exact pk_le 0 P (fun q => fin) (fun q => absurd q (by omega)) rfl rfl (by omega) hP
  · refine ⟨fun q => absurd q hx, fun _ => ?_⟩
    exact ⟨fun q => absurd q hx, fun _ => rfl⟩
theorem op_exchange (hS : St A k h ss cg cw cV qg qw qV uR uk) : Wp_X6_exchange ss sq cg cw cV qg qw qV nE nrT nrs nrg (fun r ss' sq' cw' qg' qw' qV' nE' nrT' nrs' nrg' => Wp_X7_exchange uR uk uN (fun r' uR' uk' uN' => r = r' ∧ Af A sq ss' sq' cg cw' cV qg' qw' qV' uR' uk')) := by
  have hS0 := hS
  obtain ⟨⟨hn, ho', hv⟩, hk, hh, -, ⟨hcg, hcw, hcV⟩, hcH, hmR, -, hmH⟩ := hS
  obtain ⟨n, o, v⟩ := A
  have hcg : cg = nI n := hcg
  subst hcg
  have hn : n ≤ 4 := hn
  have ho' : okO n o := ho'
  have hv : okV v := hv
  refine w_find hn ho' hv hcw hcV (fun l nE' rT' rg' hl hr => ?_) (fun hl nE' rT' rs' rg' => ?_)
  · obtain ⟨l2, l4, hln⟩ := ringA_len hn hl
    refine pq_ne l.length 0 (fun _ => ?_) (fun q => absurd q (by omega))
    refine act hS0 (fun qg' qw' qV' c1 => ?_)
    refine w_passPieces hn (by omega) (by omega) hr hln ho' hcw (fun cw' hcw' => ?_)
    refine w7_layRing hn ho' hv hmR (fun l' uN' hl' hr' => ?_) (fun hl' => by rw [hl] at hl'; cases hl')
    rw [hl] at hl'
    cases hl'
    refine pq_ne l.length 0 (fun _ => ?_) (fun q => absurd q (by omega))
    refine act7 hS0 (fun R' m1 m2 => ?_)
    refine w7_passes (R0 := R') hn hr' hl ho' m1.O (fun _ _ => rfl) (fun R2 hO2 hf => ⟨rfl, ?_⟩)
    exact ⟨(n, fun c => xo l (o c), v), recK k, recH k h (n, o, v), ⟨⟨hn, fun c hc => xo_ok hln (ho' c hc), hv⟩, recK_le hk, recH_ok hk hh ⟨hn, ho', hv⟩, rfl, ⟨rfl, hcw', hcV⟩, c1, m1.setO hO2 hf, rfl, m2.fO hf⟩, Or.inl rfl⟩
  · refine ⟨fun q => absurd rfl q, fun _ => ?_⟩
    refine w7_layRing hn ho' hv hmR (fun l' uN' hl' hr' => by rw [hl] at hl'; cases hl') (fun _ uN' => ?_)
    exact ⟨fun q => absurd rfl q, fun _ => ⟨rfl, hS0.same⟩⟩
end RINGS
