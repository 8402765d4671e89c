/-! divisions, the reference: all rows, all cuts -/
theorem pck_mem {n : Nat} : ∀ L : List (List Nat), pck n L = true → ∀ x, x ∈ L → x.length = n ∧ ∀ i, i < n → x.getD i 0 < n
  | [], _, _, h => by cases h
  | l :: L, h, x, hx => by
    obtain ⟨p1, p2, p3, p4, p5⟩ := pck_tail h
    rcases List.mem_cons.mp hx with rfl | hx
    · exact ⟨p1, fun i hi => all_getD p2 (by omega)⟩
    · exact pck_mem L p5 x hx
theorem Pn_mem {n : Nat} (hn1 : 1 ≤ n) (hn : n ≤ 4) : ∀ x, x ∈ pfl n (4 ^ n) 0 → x.length = n ∧ ∀ i, i < n → x.getD i 0 < n := by
  rw [Pn_pfl n (by omega) hn1]
  exact pck_mem _ (Pn_pck n (by omega) hn1)
theorem p4_le {n : Nat} (hn : n ≤ 4) : 4 ^ n ≤ 256 := by
  rcases (show n = 0 ∨ n = 1 ∨ n = 2 ∨ n = 3 ∨ n = 4 by omega) with rfl | rfl | rfl | rfl | rfl <;> decide
def rMF (F : FS) (uB : Nat → Int32) (ubw ubu ubd _ucm _ucw _ucf : Int32) : Prop := rM F uB ubw ubu ubd
def rMQ (Q : QS) (_uB : Nat → Int32) (_ubw _ubu _ubd ucm ucw ucf : Int32) : Prop := ucm = Q.1 ∧ ucw = Q.2.1 ∧ ucf = Q.2.2
theorem w7_looksF {R uF uW uB : Nat → Int32} {v : Nat → Nat → Nat} {n : Nat} {c : List Nat} {s : FS} {ubw ubu ubd ucm ucw ucf : Int32} {Z : (Nat → Int32) → (Nat → Int32) → Int32 → Int32 → Int32 → Int32 → Int32 → Int32 → Prop} (hn1 : 1 ≤ n) (hn : n ≤ 4) (hv : okV v) (hR : R 0 = nI n) (hV : mV v R) (hc : okC n c = true) (hF : rF7 c uF) (hs : rMF s uB ubw ubu ubd ucm ucw ucf)
    (hz : ∀ uW' uB ubw ubu ubd ucm ucw ucf, rMF ((Pn n).foldl (stF v n c) s) uB ubw ubu ubd ucm ucw ucf → Z uW' uB ubw ubu ubd ucm ucw ucf) : Wp_X7_looksAt R uF uW uB ubw ubu ubd ucm ucw ucf 0 Z := by
  have e0 : R (0 : Int32).toNatClampNeg = nI n := hR
  have h256 := p4_le hn
  have l26 : ∀ e j (s : FS) uW uB ubw ubu ubd ucm ucw ucf, j + e = 4 ^ n → (∀ x, x ∈ pfl n e j → x.length = n ∧ ∀ i, i < n → x.getD i 0 < n) → rMF s uB ubw ubu ubd ucm ucw ucf → (∀ uW' uB ubw ubu ubd ucm ucw ucf, rMF ((pfl n e j).foldl (stF v n c) s) uB ubw ubu ubd ucm ucw ucf → Z uW' uB ubw ubu ubd ucm ucw ucf) → Wp_X7_looksAt_26 R uF 0 Z (nI (4 ^ n)) (nI j) uW uB ubw ubu ubd ucm ucw ucf := by
    intro e
    induction e with
    | zero =>
      intro j s uW uB ubw ubu ubd ucm ucw ucf hje hx hs hz
      refine F_X7_looksAt_26 _ _ _ _ _ _ _ _ _ _ _ _ _ _ ?_
      exact pk_le (4 ^ n) j (fun _ => hz _ _ _ _ _ _ _ _ hs) (fun q => absurd q (by omega))
    | succ e ih =>
      intro j s uW uB ubw ubu ubd ucm ucw ucf hje hx hs hz
      refine F_X7_looksAt_26 _ _ _ _ _ _ _ _ _ _ _ _ _ _ ?_
      have e9 : nI j + 1 = nI (j + 1) := by rw [nI_1]
      refine pk_le (4 ^ n) j (fun q => absurd q (by omega)) (fun _ => ?_)
      refine w7_layGuests hn1 hn hR (by omega) (fun uW' hr => ?_)
      refine pb_eq (fun hb => ?_) (fun hb => ?_)
      · have e1 : pfl n (e + 1) j = pfl n e (j + 1) := by
          show (if mk' (dg n j) 0 = 2 ^ n - 1 then _ else _) = _
          rw [if_neg (of_decide_eq_false hb)]
        rw [e1] at hx hz
        rw [e9]
        exact ih (j + 1) s uW' uB ubw ubu ubd ucm ucw ucf (by omega) hx hs hz
      · have e1 : pfl n (e + 1) j = dg n j :: pfl n e (j + 1) := by
          show (if mk' (dg n j) 0 = 2 ^ n - 1 then _ else _) = _
          rw [if_pos (of_decide_eq_true hb)]
        rw [e1] at hx hz
        obtain ⟨p1, p2⟩ := hx _ List.mem_cons_self
        have hx' : ∀ x, x ∈ pfl n e (j + 1) → x.length = n ∧ ∀ i, i < n → x.getD i 0 < n := fun x h => hx x (List.mem_cons_of_mem _ h)
        rw [List.foldl_cons] at hz
        refine ⟨fun q => absurd rfl q, fun _ => ?_⟩
        refine w7_weighs hn1 hn hv hR hV hc hF p1 p2 hr hs (fun uB' ubw' ubu' ubd' hs' => ?_)
        rw [e9]
        exact ih (j + 1) _ uW' uB' ubw' ubu' ubd' ucm ucw ucf (by omega) hx' hs' hz
  have l4 : ∀ d k, k + d = n → Wp_X7_looksAt_4 R uF 0 Z (nI (4 ^ k)) (nI k) uW uB ubw ubu ubd ucm ucw ucf := by
    intro d
    induction d with
    | zero =>
      intro k hkd
      refine F_X7_looksAt_4 _ _ _ _ _ _ _ _ _ _ _ _ _ _ ?_
      have : k = n := by omega
      subst this
      refine ⟨q_in (k := 0) (by omega), ?_⟩
      rw [e0]
      refine pk_le k k (fun _ => ?_) (fun q => absurd (Nat.le_refl k) (by omega))
      exact l26 (4 ^ k) 0 s uW uB ubw ubu ubd ucm ucw ucf (by omega) (Pn_mem hn1 hn) hs (by rw [Pn_pfl k (by omega) hn1]; exact hz)
    | succ d ih =>
      intro k hkd
      refine F_X7_looksAt_4 _ _ _ _ _ _ _ _ _ _ _ _ _ _ ?_
      refine ⟨q_in (k := 0) (by omega), ?_⟩
      rw [e0]
      refine pk_le n k (fun q => absurd q (by omega)) (fun _ => ?_)
      have e1 : nI (4 ^ k) * 4 = nI (4 ^ (k + 1)) := (pk_mul (4 ^ k) 4).trans (by rw [Nat.pow_succ])
      rw [e1, nI_1]
      exact ih (k + 1) (by omega)
  exact l4 n 0 (by omega)
theorem w7_looksQ {R uF uW uB : Nat → Int32} {v : Nat → Nat → Nat} {n : Nat} {c : List Nat} {s : QS} {ubw ubu ubd ucm ucw ucf : Int32} {Z : (Nat → Int32) → (Nat → Int32) → Int32 → Int32 → Int32 → Int32 → Int32 → Int32 → Prop} (hn1 : 1 ≤ n) (hn : n ≤ 4) (hv : okV v) (hR : R 0 = nI n) (hV : mV v R) (hc : okC n c = true) (hF : rF7 c uF) (hs : rMQ s uB ubw ubu ubd ucm ucw ucf)
    (hz : ∀ uW' uB ubw ubu ubd ucm ucw ucf, rMQ ((Pn n).foldl (stQ v n c) s) uB ubw ubu ubd ucm ucw ucf → Z uW' uB ubw ubu ubd ucm ucw ucf) : Wp_X7_looksAt R uF uW uB ubw ubu ubd ucm ucw ucf 1 Z := by
  have e0 : R (0 : Int32).toNatClampNeg = nI n := hR
  have h256 := p4_le hn
  have l26 : ∀ e j (s : QS) uW uB ubw ubu ubd ucm ucw ucf, j + e = 4 ^ n → (∀ x, x ∈ pfl n e j → x.length = n ∧ ∀ i, i < n → x.getD i 0 < n) → rMQ s uB ubw ubu ubd ucm ucw ucf → (∀ uW' uB ubw ubu ubd ucm ucw ucf, rMQ ((pfl n e j).foldl (stQ v n c) s) uB ubw ubu ubd ucm ucw ucf → Z uW' uB ubw ubu ubd ucm ucw ucf) → Wp_X7_looksAt_26 R uF 1 Z (nI (4 ^ n)) (nI j) uW uB ubw ubu ubd ucm ucw ucf := by
    intro e
    induction e with
    | zero =>
      intro j s uW uB ubw ubu ubd ucm ucw ucf hje hx hs hz
      refine F_X7_looksAt_26 _ _ _ _ _ _ _ _ _ _ _ _ _ _ ?_
      exact pk_le (4 ^ n) j (fun _ => hz _ _ _ _ _ _ _ _ hs) (fun q => absurd q (by omega))
    | succ e ih =>
      intro j s uW uB ubw ubu ubd ucm ucw ucf hje hx hs hz
      refine F_X7_looksAt_26 _ _ _ _ _ _ _ _ _ _ _ _ _ _ ?_
      have e9 : nI j + 1 = nI (j + 1) := by rw [nI_1]
      refine pk_le (4 ^ n) j (fun q => absurd q (by omega)) (fun _ => ?_)
      refine w7_layGuests hn1 hn hR (by omega) (fun uW' hr => ?_)
      refine pb_eq (fun hb => ?_) (fun hb => ?_)
      · have e1 : pfl n (e + 1) j = pfl n e (j + 1) := by
          show (if mk' (dg n j) 0 = 2 ^ n - 1 then _ else _) = _
          rw [if_neg (of_decide_eq_false hb)]
        rw [e1] at hx hz
        rw [e9]
        exact ih (j + 1) s uW' uB ubw ubu ubd ucm ucw ucf (by omega) hx hs hz
      · have e1 : pfl n (e + 1) j = dg n j :: pfl n e (j + 1) := by
          show (if mk' (dg n j) 0 = 2 ^ n - 1 then _ else _) = _
          rw [if_pos (of_decide_eq_true hb)]
        rw [e1] at hx hz
        obtain ⟨p1, p2⟩ := hx _ List.mem_cons_self
        have hx' : ∀ x, x ∈ pfl n e (j + 1) → x.length = n ∧ ∀ i, i < n → x.getD i 0 < n := fun x h => hx x (List.mem_cons_of_mem _ h)
        rw [List.foldl_cons] at hz
        refine ⟨fun _ => ?_, fun q => absurd q (by decide)⟩
        refine w7_isCalm hn hv hR hV hc hF p1 p2 hr ?_
        obtain ⟨rfl, rfl, rfl⟩ := hs
        have f0 : uW' (0 : Int32).toNatClampNeg = nI (gA (dg n j) 0) := hr 0 (by omega)
        have f1 : uF (1 : Int32).toNatClampNeg = nI (c.getD 1 0) := hF 1 (by omega)
        refine pb_eq (fun he => ?_) (fun he => ?_)
        · have e2 : stQ v n c s (dg n j) = s := by
            unfold stQ
            rw [if_pos]
            cases h : envA v n c (dg n j) n 0 with
            | true => rfl
            | false => rw [h] at he; cases he
          rw [e2] at hz
          rw [e9]
          exact ih (j + 1) s uW' uB ubw ubu ubd _ _ _ (by omega) hx' ⟨rfl, rfl, rfl⟩ hz
        · have e2 : stQ v n c s (dg n j) = (s.1 + 1, if s.1 = 0 then (nI (gA (dg n j) 0), nI (c.getD 1 0)) else (s.2.1, s.2.2)) := by
            unfold stQ
            rw [if_neg]
            intro h
            rw [h] at he
            cases he
          rw [e2] at hz
          by_cases q : s.1 = 0
          · refine ⟨fun q2 => absurd q q2, fun _ => ⟨q_in (k := 0) (by omega), ?_⟩⟩
            refine ⟨fun q2 => absurd q q2, fun _ => ⟨q_in (k := 1) (by omega), ?_⟩⟩
            rw [if_pos q] at hz
            unfold K_X7_looksAt_102
            rw [e9, f0, f1]
            exact ih (j + 1) (s.1 + 1, nI (gA (dg n j) 0), nI (c.getD 1 0)) uW' uB ubw ubu ubd _ _ _ (by omega) hx' ⟨rfl, rfl, rfl⟩ hz
          · refine ⟨fun _ => ?_, fun q2 => absurd q2 q⟩
            refine ⟨fun _ => ?_, fun q2 => absurd q2 q⟩
            rw [if_neg q] at hz
            unfold K_X7_looksAt_102
            rw [e9]
            exact ih (j + 1) (s.1 + 1, s.2.1, s.2.2) uW' uB ubw ubu ubd _ _ _ (by omega) hx' ⟨rfl, rfl, rfl⟩ hz
  have l4 : ∀ d k, k + d = n → Wp_X7_looksAt_4 R uF 1 Z (nI (4 ^ k)) (nI k) uW uB ubw ubu ubd ucm ucw ucf := by
    intro d
    induction d with
    | zero =>
      intro k hkd
      refine F_X7_looksAt_4 _ _ _ _ _ _ _ _ _ _ _ _ _ _ ?_
      have : k = n := by omega
      subst this
      refine ⟨q_in (k := 0) (by omega), ?_⟩
      rw [e0]
      refine pk_le k k (fun _ => ?_) (fun q => absurd (Nat.le_refl k) (by omega))
      exact l26 (4 ^ k) 0 s uW uB ubw ubu ubd ucm ucw ucf (by omega) (Pn_mem hn1 hn) hs (by rw [Pn_pfl k (by omega) hn1]; exact hz)
    | succ d ih =>
      intro k hkd
      refine F_X7_looksAt_4 _ _ _ _ _ _ _ _ _ _ _ _ _ _ ?_
      refine ⟨q_in (k := 0) (by omega), ?_⟩
      rw [e0]
      refine pk_le n k (fun q => absurd q (by omega)) (fun _ => ?_)
      have e1 : nI (4 ^ k) * 4 = nI (4 ^ (k + 1)) := (pk_mul (4 ^ k) 4).trans (by rw [Nat.pow_succ])
      rw [e1, nI_1]
      exact ih (k + 1) (by omega)
  exact l4 n 0 (by omega)
theorem pick_hi {n k : Nat} {y : Int32} (P : Int32 → Prop) (hn : n ≤ 4) (hk : k < 5) (h : P (nI (hiN n k))) (hy : y = nI k := by rfl) : (nI n ≤ y → P 1) ∧ (¬ nI n ≤ y → P 23) := by
  subst hy
  refine pk_le n k (fun q => ?_) (fun q => ?_)
  · have : hiN n k = 1 := if_neg (by omega)
    rw [this] at h; exact h
  · have : hiN n k = 23 := if_pos q
    rw [this] at h; exact h
theorem pick_lo {n k x : Nat} {y : Int32} (P : Int32 → Prop) (hn : n ≤ 4) (hk : k < 5) (h : P (nI (loN n k x))) (hy : y = nI k := by rfl) : (nI n ≤ y → P 1) ∧ (¬ nI n ≤ y → P (nI x + 1)) := by
  subst hy
  refine pk_le n k (fun q => ?_) (fun q => ?_)
  · have : loN n k x = 1 := if_neg (by omega)
    rw [this] at h; exact h
  · have : loN n k x = x + 1 := if_pos q
    rw [this] at h; rw [nI_1]; exact h
theorem pick_c {n k x : Nat} {y : Int32} (P : Int32 → Prop) (hn : n ≤ 4) (hk : k < 5) (h : P (nI (if k < n then x else 24))) (hy : y = nI k := by rfl) : (nI n ≤ y → P 24) ∧ (¬ nI n ≤ y → P (nI x)) := by
  subst hy
  refine pk_le n k (fun q => ?_) (fun q => ?_)
  · rw [if_neg (by omega)] at h; exact h
  · rw [if_pos q] at h; exact h
theorem hi_le (n k : Nat) : hiN n k ≤ 23 := by unfold hiN; split <;> omega
theorem lo_le (n k x : Nat) : loN n k x ≤ x + 1 := by unfold loN; split <;> omega
theorem w7_searches {S : Type} (step : S → List Nat → S) (Rl : S → (Nat → Int32) → Int32 → Int32 → Int32 → Int32 → Int32 → Int32 → Prop) {R uF uW uB : Nat → Int32} {n : Nat} {s0 : S} {a1 ubw ubu ubd ucm ucw ucf : Int32} {Z : (Nat → Int32) → (Nat → Int32) → (Nat → Int32) → Int32 → Int32 → Int32 → Int32 → Int32 → Int32 → Prop} (hn1 : 1 ≤ n) (hn : n ≤ 4) (hR : R 0 = nI n) (hF0 : uF 0 = 0)
    (hlook : ∀ (c : List Nat) (s : S) (uF uW uB : Nat → Int32) (ubw ubu ubd ucm ucw ucf : Int32) (Z : (Nat → Int32) → (Nat → Int32) → Int32 → Int32 → Int32 → Int32 → Int32 → Int32 → Prop), okC n c = true → rF7 c uF → Rl s uB ubw ubu ubd ucm ucw ucf → (∀ uW' uB ubw ubu ubd ucm ucw ucf, Rl (step s c) uB ubw ubu ubd ucm ucw ucf → Z uW' uB ubw ubu ubd ucm ucw ucf) → Wp_X7_looksAt R uF uW uB ubw ubu ubd ucm ucw ucf a1 Z)
    (hs0 : Rl s0 uB ubw ubu 0 0 ucw ucf) (hmem : ∀ x, x ∈ MC n → okC n x = true)
    (hz : ∀ uF' uW' uB ubw ubu ubd ucm ucw ucf, uF' 0 = 0 → Rl ((MC n).foldl step s0) uB ubw ubu ubd ucm ucw ucf → Z uF' uW' uB ubw ubu ubd ucm ucw ucf) : Wp_X7_searches R uF uW uB ubw ubu ubd ucm ucw ucf a1 Z := by
  have e0 : R (0 : Int32).toNatClampNeg = nI n := hR
  have h1 := hi_le n 1
  have h2 := hi_le n 2
  have h3 := hi_le n 3
  have l83 : ∀ d a b c s uF uW uB ubw ubu ubd ucm ucw ucf, d = hiN n 3 + 1 - c → c < 100 → a < 100 → b < 100 → (∀ x, x ∈ LC n a b d c → okC n x = true) → uF 0 = 0 → Rl s uB ubw ubu ubd ucm ucw ucf → (∀ uF uW uB ubw ubu ubd ucm ucw ucf, uF 0 = 0 → Rl ((LC n a b d c).foldl step s) uB ubw ubu ubd ucm ucw ucf → Wp_X7_searches_53 R a1 Z (nI n) 23 (nI a) (nI (b + 1)) uF uW uB ubw ubu ubd ucm ucw ucf) → Wp_X7_searches_83 R a1 Z (nI n) 23 (nI a) (nI b) (nI c) uF uW uB ubw ubu ubd ucm ucw ucf := by
    intro d
    induction d with
    | zero =>
      intro a b c s uF uW uB ubw ubu ubd ucm ucw ucf hd hc ha hb hx hF0 hs hnext
      refine F_X7_searches_83 _ _ _ _ _ _ _ _ _ _ _ _ _ _ _ _ _ ?_
      refine pick_hi (k := 3) (fun t => K_X7_searches_95 R a1 Z _ _ _ (nI n) 23 (nI a) (nI b) (nI c) uF uW uB ubw ubu ubd ucm ucw ucf t (nI c)) hn (by omega) ?_
      unfold K_X7_searches_95
      refine pk_lt (hiN n 3) c (fun _ => ?_) (fun q => absurd q (by omega))
      rw [nI_1]
      exact hnext uF uW uB ubw ubu ubd ucm ucw ucf hF0 hs
    | succ d ih =>
      intro a b c s uF uW uB ubw ubu ubd ucm ucw ucf hd hc ha hb hx hF0 hs hnext
      refine F_X7_searches_83 _ _ _ _ _ _ _ _ _ _ _ _ _ _ _ _ _ ?_
      refine pick_hi (k := 3) (fun t => K_X7_searches_95 R a1 Z _ _ _ (nI n) 23 (nI a) (nI b) (nI c) uF uW uB ubw ubu ubd ucm ucw ucf t (nI c)) hn (by omega) ?_
      unfold K_X7_searches_95
      refine pk_lt (hiN n 3) c (fun q => absurd q (by omega)) (fun _ => ?_)
      refine pick_c (k := 1) (fun t => K_X7_searches_115 R a1 Z _ _ _ (nI n) 23 (nI a) (nI b) (nI c) uF uW uB ubw ubu ubd ucm ucw ucf t 1) hn (by omega) ?_
      refine ⟨q_in (k := 1) (by omega), ?_⟩
      refine pick_c (k := 2) (fun t => K_X7_searches_133 R a1 Z _ _ _ (nI n) 23 (nI a) (nI b) (nI c) (upd uF (1 : Int32).toNatClampNeg (nI (if 1 < n then a else 24))) uW uB ubw ubu ubd ucm ucw ucf t 2) hn (by omega) ?_
      refine ⟨q_in (k := 2) (by omega), ?_⟩
      refine pick_c (k := 3) (fun t => K_X7_searches_151 R a1 Z _ _ _ (nI n) 23 (nI a) (nI b) (nI c) (upd (upd uF (1 : Int32).toNatClampNeg (nI (if 1 < n then a else 24))) (2 : Int32).toNatClampNeg (nI (if 2 < n then b else 24))) uW uB ubw ubu ubd ucm ucw ucf t 3) hn (by omega) ?_
      refine ⟨q_in (k := 3) (by omega), q_in (k := 4) (by omega), ?_⟩
      have hF7 : rF7 (cutN n a b c) (upd (upd (upd (upd uF (1 : Int32).toNatClampNeg (nI (if 1 < n then a else 24))) (2 : Int32).toNatClampNeg (nI (if 2 < n then b else 24))) (3 : Int32).toNatClampNeg (nI (if 3 < n then c else 24))) (4 : Int32).toNatClampNeg 24) := fun k hk => by
        rcases (show k = 0 ∨ k = 1 ∨ k = 2 ∨ k = 3 ∨ k = 4 by omega) with rfl | rfl | rfl | rfl | rfl
        · exact hF0
        · rfl
        · rfl
        · rfl
        · rfl
      refine hlook (cutN n a b c) s _ _ _ _ _ _ _ _ _ _ (hx _ List.mem_cons_self) hF7 hs (fun uW' uB ubw ubu ubd ucm ucw ucf hs' => ?_)
      rw [nI_1]
      exact ih a b (c + 1) (step s (cutN n a b c)) _ uW' uB ubw ubu ubd ucm ucw ucf (by omega) (by omega) ha hb (fun x h => hx x (List.mem_cons_of_mem _ h)) (hF7 0 (by omega)) hs' hnext
  have l53 : ∀ d a b s uF uW uB ubw ubu ubd ucm ucw ucf, d = hiN n 2 + 1 - b → b < 60 → a < 100 → (∀ x, x ∈ LB n a d b → okC n x = true) → uF 0 = 0 → Rl s uB ubw ubu ubd ucm ucw ucf → (∀ uF uW uB ubw ubu ubd ucm ucw ucf, uF 0 = 0 → Rl ((LB n a d b).foldl step s) uB ubw ubu ubd ucm ucw ucf → Wp_X7_searches_23 R a1 Z (nI n) 23 (nI (a + 1)) uF uW uB ubw ubu ubd ucm ucw ucf) → Wp_X7_searches_53 R a1 Z (nI n) 23 (nI a) (nI b) uF uW uB ubw ubu ubd ucm ucw ucf := by
    intro d
    induction d with
    | zero =>
      intro a b s uF uW uB ubw ubu ubd ucm ucw ucf hd hb ha hx hF0 hs hnext
      refine F_X7_searches_53 _ _ _ _ _ _ _ _ _ _ _ _ _ _ _ _ ?_
      refine pick_hi (k := 2) (fun t => K_X7_searches_65 R a1 Z _ _ _ (nI n) 23 (nI a) (nI b) uF uW uB ubw ubu ubd ucm ucw ucf t (nI b)) hn (by omega) ?_
      unfold K_X7_searches_65
      refine pk_lt (hiN n 2) b (fun _ => ?_) (fun q => absurd q (by omega))
      rw [nI_1]
      exact hnext uF uW uB ubw ubu ubd ucm ucw ucf hF0 hs
    | succ d ih =>
      intro a b s uF uW uB ubw ubu ubd ucm ucw ucf hd hb ha hx hF0 hs hnext
      refine F_X7_searches_53 _ _ _ _ _ _ _ _ _ _ _ _ _ _ _ _ ?_
      refine pick_hi (k := 2) (fun t => K_X7_searches_65 R a1 Z _ _ _ (nI n) 23 (nI a) (nI b) uF uW uB ubw ubu ubd ucm ucw ucf t (nI b)) hn (by omega) ?_
      unfold K_X7_searches_65
      refine pk_lt (hiN n 2) b (fun q => absurd q (by omega)) (fun _ => ?_)
      have lo := lo_le n 3 b
      refine pick_lo (k := 3) (fun t => Wp_X7_searches_83 R a1 Z (nI n) 23 (nI a) (nI b) t uF uW uB ubw ubu ubd ucm ucw ucf) hn (by omega) ?_
      have hx2 : ∀ x, x ∈ LC n a b (hiN n 3 + 1 - loN n 3 b) (loN n 3 b) ++ LB n a d (b + 1) → okC n x = true := hx
      refine l83 _ a b _ s uF uW uB ubw ubu ubd ucm ucw ucf rfl (by omega) ha (by omega) (fun x h => hx2 x (List.mem_append_left _ h)) hF0 hs (fun uF uW uB ubw ubu ubd ucm ucw ucf hF0 hs' => ?_)
      refine ih a (b + 1) _ uF uW uB ubw ubu ubd ucm ucw ucf (by omega) (by omega) ha (fun x h => hx2 x (List.mem_append_right _ h)) hF0 hs' (fun uF uW uB ubw ubu ubd ucm ucw ucf hF0 hs2 => ?_)
      refine hnext uF uW uB ubw ubu ubd ucm ucw ucf hF0 ?_
      show Rl ((LC n a b (hiN n 3 + 1 - loN n 3 b) (loN n 3 b) ++ LB n a d (b + 1)).foldl step s) uB ubw ubu ubd ucm ucw ucf
      rw [List.foldl_append]
      exact hs2
  have l23 : ∀ d a s uF uW uB ubw ubu ubd ucm ucw ucf, d = hiN n 1 + 1 - a → a < 50 → (∀ x, x ∈ LA n d a → okC n x = true) → uF 0 = 0 → Rl s uB ubw ubu ubd ucm ucw ucf → (∀ uF uW uB ubw ubu ubd ucm ucw ucf, uF 0 = 0 → Rl ((LA n d a).foldl step s) uB ubw ubu ubd ucm ucw ucf → Z uF uW uB ubw ubu ubd ucm ucw ucf) → Wp_X7_searches_23 R a1 Z (nI n) 23 (nI a) uF uW uB ubw ubu ubd ucm ucw ucf := by
    intro d
    induction d with
    | zero =>
      intro a s uF uW uB ubw ubu ubd ucm ucw ucf hd ha hx hF0 hs hnext
      refine F_X7_searches_23 _ _ _ _ _ _ _ _ _ _ _ _ _ _ _ ?_
      refine pick_hi (k := 1) (fun t => K_X7_searches_35 R a1 Z _ _ _ (nI n) 23 (nI a) uF uW uB ubw ubu ubd ucm ucw ucf t (nI a)) hn (by omega) ?_
      unfold K_X7_searches_35
      exact pk_lt (hiN n 1) a (fun _ => hnext uF uW uB ubw ubu ubd ucm ucw ucf hF0 hs) (fun q => absurd q (by omega))
    | succ d ih =>
      intro a s uF uW uB ubw ubu ubd ucm ucw ucf hd ha hx hF0 hs hnext
      refine F_X7_searches_23 _ _ _ _ _ _ _ _ _ _ _ _ _ _ _ ?_
      refine pick_hi (k := 1) (fun t => K_X7_searches_35 R a1 Z _ _ _ (nI n) 23 (nI a) uF uW uB ubw ubu ubd ucm ucw ucf t (nI a)) hn (by omega) ?_
      unfold K_X7_searches_35
      refine pk_lt (hiN n 1) a (fun q => absurd q (by omega)) (fun _ => ?_)
      have lo := lo_le n 2 a
      refine pick_lo (k := 2) (fun t => Wp_X7_searches_53 R a1 Z (nI n) 23 (nI a) t uF uW uB ubw ubu ubd ucm ucw ucf) hn (by omega) ?_
      have hx2 : ∀ x, x ∈ LB n a (hiN n 2 + 1 - loN n 2 a) (loN n 2 a) ++ LA n d (a + 1) → okC n x = true := hx
      refine l53 _ a _ s uF uW uB ubw ubu ubd ucm ucw ucf rfl (by omega) (by omega) (fun x h => hx2 x (List.mem_append_left _ h)) hF0 hs (fun uF uW uB ubw ubu ubd ucm ucw ucf hF0 hs' => ?_)
      refine ih (a + 1) _ uF uW uB ubw ubu ubd ucm ucw ucf (by omega) (by omega) (fun x h => hx2 x (List.mem_append_right _ h)) hF0 hs' (fun uF uW uB ubw ubu ubd ucm ucw ucf hF0 hs2 => ?_)
      refine hnext uF uW uB ubw ubu ubd ucm ucw ucf hF0 ?_
      show Rl ((LB n a (hiN n 2 + 1 - loN n 2 a) (loN n 2 a) ++ LA n d (a + 1)).foldl step s) uB ubw ubu ubd ucm ucw ucf
      rw [List.foldl_append]
      exact hs2
  unfold Wp_X7_searches
  rw [e0]
  exact ⟨q_in (k := 0) (by omega), l23 (hiN n 1) 1 s0 uF uW uB ubw ubu 0 0 ucw ucf (by omega) (by omega) hmem hF0 hs0 hz⟩
