/-! best and calm: the calls -/
def calmV (v : Nat → Nat → Nat) (n x : Nat) : Int32 := if x = 0 then (QQ v n 0 0).1 else if (QQ v n 0 0).1 = 0 then -9 else if x = 1 then (QQ v n 0 0).2.1 else (QQ v n 0 0).2.2
theorem w_calm {A : CA} {cV dAH dPA : Nat → Nat → Int32} {sq dFp dFt dFg dQc dQg dQk dSp drs drg : Int32} {dFS dST dTO dGR drT : Nat → Int32} {x : Nat} {Z : Int32 → Int32 → Int32 → Int32 → Int32 → (Nat → Int32) → Int32 → Int32 → Int32 → Int32 → (Nat → Int32) → (Nat → Int32) → (Nat → Nat → Int32) → (Nat → Nat → Int32) → (Nat → Int32) → (Nat → Int32) → Int32 → Int32 → Prop} (hn1 : 2 ≤ A.1) (hn : A.1 ≤ 4) (hv : okV A.2.2) (hV : rV A.2.2 cV) (hCa : Ca A sq dFp dFt dFg dFS dQc dQg dQk) (h0 : rZ dAH) (hx : x ≤ 2)
    (hz : ∀ sq fp ft fg fS Qc Qg Qk Sp ST TO AH PA GR rt rs rg, Rs A fp ft fg fS Qc Qg Qk → rZ AH → Z (calmV A.2.2 A.1 x) sq fp ft fg fS Qc Qg Qk Sp ST TO AH PA GR rt rs rg) : Wp_X6_calm sq (nI A.1) cV dFp dFt dFg dFS dQc dQg dQk dSp dST dTO dAH dPA dGR drT drs drg (nI x) Z := by
  refine pk_lt x 0 (fun q => absurd q (by omega)) (fun _ => pk_le x 2 (fun _ => ?_) (fun q => absurd q (by omega)))
  refine pk_le 2 A.1 (fun _ => ?_) (fun q => absurd q (by omega))
  refine w_searchOnce (by omega) hn hv hV hCa h0 (fun sq fp ft fg fS Qc Qg Qk Sp ST TO AH PA GR rt rs rg hR hZ => ?_)
  have hz := hz sq fp ft fg fS Qc Qg Qk Sp ST TO AH PA GR rt rs rg hR hZ
  obtain ⟨-, g, k, rfl, rfl, rfl⟩ := id hR
  obtain ⟨q1, q2⟩ := QQ_eq A.2.2 A.1 g k 0 0
  unfold calmV at hz
  refine pq_ne x 0 (fun q => ?_) (fun q => ?_)
  · rw [if_neg q, ← q1] at hz
    by_cases m : (QQ A.2.2 A.1 g k).1 = 0
    · rw [if_pos m] at hz
      exact ⟨fun z => absurd m z, fun _ => hz⟩
    · rw [if_neg m] at hz
      have q2 : QQ A.2.2 A.1 g k = QQ A.2.2 A.1 0 0 := by
        rcases q2 with q2 | q2
        · exact absurd q2 m
        · exact q2
      rw [← q2] at hz
      refine ⟨fun _ => pq_ne x 1 (fun q3 => ?_) (fun q3 => ?_), fun z => absurd z m⟩
      · rw [if_neg q3] at hz; exact hz
      · rw [if_pos q3] at hz; exact hz
  · rw [if_pos q, ← q1] at hz
    exact hz
theorem w7_calm {R uF uW uB : Nat → Int32} {A : CA} {ubw ubu ubd ucm ucw ucf : Int32} {x : Nat} {Z : Int32 → (Nat → Int32) → (Nat → Int32) → (Nat → Int32) → Int32 → Int32 → Int32 → Int32 → Int32 → Int32 → Prop} (hn1 : 2 ≤ A.1) (hn : A.1 ≤ 4) (hv : okV A.2.2) (hm : mR 0 A R) (hF0 : uF 0 = 0) (hx : x ≤ 2)
    (hz : ∀ uF' uW' uB ubw ubu ubd ucm ucw ucf, uF' 0 = 0 → Z (calmV A.2.2 A.1 x) uF' uW' uB ubw ubu ubd ucm ucw ucf) : Wp_X7_calm R uF uW uB ubw ubu ubd ucm ucw ucf (nI x) Z := by
  have e0 : R (0 : Int32).toNatClampNeg = nI A.1 := hm.R0
  refine w7_in (l := 0) (u := 2) (by omega) (by omega) (fun _ _ _ _ => ?_) (fun hno => absurd rfl (hno x (Nat.zero_le _) hx))
  refine ⟨fun _ => ⟨q_in (k := 0) (by omega), ?_⟩, fun q => absurd q (by decide)⟩
  rw [e0]
  refine pk_le 2 A.1 (fun _ => ?_) (fun q => absurd q (by omega))
  refine w7_searches (cQ A.2.2 A.1) rMQ (s0 := ((0 : Int32), ucw, ucf)) (by omega) hn hm.R0 hF0 (fun c s uF uW uB ubw ubu ubd ucm ucw ucf Z hc hF hs hz => w7_looksQ (by omega) hn hv hm.R0 hm.V hc hF hs hz) ⟨rfl, rfl, rfl⟩ (MC_mem (by omega) hn) (fun uF' uW' uB ubw' ubu' ubd' ucm' ucw' ucf' hF0' hM => ?_)
  have hz := hz uF' uW' uB ubw' ubu' ubd' ucm' ucw' ucf' hF0'
  have hM : rMQ (QQ A.2.2 A.1 ucw ucf) uB ubw' ubu' ubd' ucm' ucw' ucf' := hM
  obtain ⟨rfl, rfl, rfl⟩ := hM
  obtain ⟨q1, q2⟩ := QQ_eq A.2.2 A.1 ucw ucf 0 0
  unfold calmV at hz
  refine pq_ne x 0 (fun q => ?_) (fun q => ?_)
  · rw [if_neg q, ← q1] at hz
    by_cases m : (QQ A.2.2 A.1 ucw ucf).1 = 0
    · rw [if_pos m] at hz
      exact ⟨fun z => absurd m z, fun _ => hz⟩
    · rw [if_neg m] at hz
      have q2 : QQ A.2.2 A.1 ucw ucf = QQ A.2.2 A.1 0 0 := by
        rcases q2 with q2 | q2
        · exact absurd q2 m
        · exact q2
      rw [← q2] at hz
      refine ⟨fun _ => pq_ne x 1 (fun q3 => ?_) (fun q3 => ?_), fun z => absurd z m⟩
      · rw [if_neg q3] at hz; exact hz
      · rw [if_pos q3] at hz; exact hz
  · rw [if_pos q, ← q1] at hz
    exact hz
section SEARCHES
variable {A : CA} {k : Nat} {h : Nat → CA} {ss sq cg : Int32} {cw : Nat → Int32} {cV : Nat → Nat → Int32} {qg : Nat → Int32} {qw : Nat → Nat → Int32} {qV : Nat → Nat → Nat → Int32} {uR : Nat → Int32} {uk : Int32} {dAH dPA : Nat → Nat → Int32} {dFp dFt dFg dQc dQg dQk dSp drs drg : Int32} {dFS dST dTO dGR drT : Nat → Int32} {uF uW uB : Nat → Int32} {ubw ubu ubd ucm ucw ucf : Int32}
/-- a number up to u, or none of them -/
theorem num_or (x1 : Int32) (u : Nat) (hu : u < 1000) : (∃ x, x ≤ u ∧ x1 = nI x) ∨ ((∀ x, 0 ≤ x → x ≤ u → x1 ≠ nI x) ∧ (¬ x1 < 0 → ¬ x1 ≤ nI u)) := by
  by_cases h0 : x1 < 0
  · exact Or.inr ⟨fun x _ hx e => by subst e; exact absurd h0 (nI_nlt (b := 0) (Nat.zero_le _) (by omega)), fun q => absurd h0 q⟩
  · obtain ⟨x, hx, rfl⟩ := nI_of h0
    by_cases hu2 : x ≤ u
    · exact Or.inl ⟨x, hu2, rfl⟩
    · refine Or.inr ⟨fun y _ hy e => ?_, fun _ => (pk_le (A := False) (B := ¬ nI x ≤ nI u) x u (fun q => absurd q hu2) (fun _ q => ?_) rfl rfl hx (by omega)).2 ?_⟩
      · have := (nI_eq hx (by omega)).mp e
        omega
      · exact (pk_le (A := False) (B := True) x u (fun q => absurd q hu2) (fun _ => trivial) rfl rfl hx (by omega)).1 q
      · exact fun q => (pk_le (A := False) (B := True) x u (fun q => absurd q hu2) (fun _ => trivial) rfl rfl hx (by omega)).1 q
theorem op_best (hS : St A k h ss cg cw cV qg qw qV uR uk) (hCa : Ca A sq dFp dFt dFg dFS dQc dQg dQk) (h0 : rZ dAH) (hF0 : uF 0 = 0) (x1 : Int32) : Wp_X6_best sq cg cV dFp dFt dFg dFS dQc dQg dQk dSp dST dTO dAH dPA dGR drT drs drg x1 (fun r sq' fp ft fg fS Qc Qg Qk Sp ST TO AH PA GR rt rs rg => Wp_X7_best uR uF uW uB ubw ubu ubd ucm ucw ucf x1 (fun r' uF' uW' uB' ubw' ubu' ubd' ucm' ucw' ucf' => r = r' ∧ Ca A sq' fp ft fg fS Qc Qg Qk ∧ rZ AH ∧ uF' 0 = 0)) := by
  obtain ⟨⟨hn, ho', hv⟩, hk, hh, -, ⟨hcg, hcw, hcV⟩, hcH, hmR, -, hmH⟩ := hS
  have hcg : cg = nI A.1 := hcg
  subst hcg
  rcases num_or x1 5 (by omega) with ⟨x, hx, rfl⟩ | ⟨hno, h5⟩
  · by_cases hn1 : 1 ≤ A.1
    · refine w_best hn1 hn hv hcV hCa h0 hx (fun sq fp ft fg fS Qc Qg Qk Sp ST TO AH PA GR rt rs rg hR hZ => ?_)
      exact w7_best hn1 hn hv hmR hF0 hx (fun _ _ _ _ _ _ _ _ _ h => ⟨rfl, Or.inr hR, hZ, h⟩)
    · have e0 : uR (0 : Int32).toNatClampNeg = nI A.1 := hmR.R0
      refine pk_lt x 0 (fun q => absurd q (by omega)) (fun _ => pk_le x 5 (fun _ => ?_) (fun q => absurd q (by omega)))
      refine pk_le 1 A.1 (fun q => absurd q hn1) (fun _ => ?_)
      refine w7_in (l := 0) (u := 5) (by omega) (by omega) (fun _ _ _ _ => ?_) (fun hno => absurd rfl (hno x (Nat.zero_le _) hx))
      refine ⟨fun _ => ⟨q_in (k := 0) (by omega), ?_⟩, fun q => absurd q (by decide)⟩
      rw [e0]
      exact pq_ne A.1 0 (fun q => absurd q (by omega)) (fun _ => ⟨rfl, hCa, h0, hF0⟩)
  · have bad : Wp_X7_best uR uF uW uB ubw ubu ubd ucm ucw ucf x1 (fun r' uF' uW' uB' ubw' ubu' ubd' ucm' ucw' ucf' => -1 = r' ∧ Ca A sq dFp dFt dFg dFS dQc dQg dQk ∧ rZ dAH ∧ uF' 0 = 0) :=
      w7_in (l := 0) (u := 5) (by omega) (by omega) (fun b b1 b2 e => absurd e (hno b b1 b2)) (fun _ => ⟨fun q => absurd rfl q, fun _ => ⟨rfl, hCa, h0, hF0⟩⟩)
    exact ⟨fun _ => bad, fun q => ⟨fun q2 => absurd q2 (h5 q), fun _ => bad⟩⟩
theorem op_calm (hS : St A k h ss cg cw cV qg qw qV uR uk) (hCa : Ca A sq dFp dFt dFg dFS dQc dQg dQk) (h0 : rZ dAH) (hF0 : uF 0 = 0) (x1 : Int32) : Wp_X6_calm sq cg cV dFp dFt dFg dFS dQc dQg dQk dSp dST dTO dAH dPA dGR drT drs drg x1 (fun r sq' fp ft fg fS Qc Qg Qk Sp ST TO AH PA GR rt rs rg => Wp_X7_calm uR uF uW uB ubw ubu ubd ucm ucw ucf x1 (fun r' uF' uW' uB' ubw' ubu' ubd' ucm' ucw' ucf' => r = r' ∧ Ca A sq' fp ft fg fS Qc Qg Qk ∧ rZ AH ∧ uF' 0 = 0)) := by
  obtain ⟨⟨hn, ho', hv⟩, hk, hh, -, ⟨hcg, hcw, hcV⟩, hcH, hmR, -, hmH⟩ := hS
  have hcg : cg = nI A.1 := hcg
  subst hcg
  rcases num_or x1 2 (by omega) with ⟨x, hx, rfl⟩ | ⟨hno, h5⟩
  · by_cases hn1 : 2 ≤ A.1
    · refine w_calm hn1 hn hv hcV hCa h0 hx (fun sq fp ft fg fS Qc Qg Qk Sp ST TO AH PA GR rt rs rg hR hZ => ?_)
      exact w7_calm hn1 hn hv hmR hF0 hx (fun _ _ _ _ _ _ _ _ _ h => ⟨rfl, Or.inr hR, hZ, h⟩)
    · have e0 : uR (0 : Int32).toNatClampNeg = nI A.1 := hmR.R0
      refine pk_lt x 0 (fun q => absurd q (by omega)) (fun _ => pk_le x 2 (fun _ => ?_) (fun q => absurd q (by omega)))
      refine pk_le 2 A.1 (fun q => absurd q hn1) (fun _ => ?_)
      refine w7_in (l := 0) (u := 2) (by omega) (by omega) (fun _ _ _ _ => ?_) (fun hno => absurd rfl (hno x (Nat.zero_le _) hx))
      refine ⟨fun _ => ⟨q_in (k := 0) (by omega), ?_⟩, fun q => absurd q (by decide)⟩
      rw [e0]
      exact pk_le 2 A.1 (fun q => absurd q hn1) (fun _ => ⟨rfl, hCa, h0, hF0⟩)
  · have bad : Wp_X7_calm uR uF uW uB ubw ubu ubd ucm ucw ucf x1 (fun r' uF' uW' uB' ubw' ubu' ubd' ucm' ucw' ucf' => -1 = r' ∧ Ca A sq dFp dFt dFg dFS dQc dQg dQk ∧ rZ dAH ∧ uF' 0 = 0) :=
      w7_in (l := 0) (u := 2) (by omega) (by omega) (fun b b1 b2 e => absurd e (hno b b1 b2)) (fun _ => ⟨fun q => absurd rfl q, fun _ => ⟨rfl, hCa, h0, hF0⟩⟩)
    exact ⟨fun _ => bad, fun q => ⟨fun q2 => absurd q2 (h5 q), fun _ => bad⟩⟩
end SEARCHES
