/-! read, class beside reference -/
section READS
variable {A : CA} {k : Nat} {h : Nat → CA} {ss sq cg : Int32} {cw : Nat → Int32} {cV : Nat → Nat → Int32} {qg : Nat → Int32} {qw : Nat → Nat → Int32} {qV : Nat → Nat → Nat → Int32} {uR : Nat → Int32} {uk : Int32} {L : Nat} {t : Nat → Nat} {xl ul : Int32} {xS uX xV uT : Nat → Int32} {xt xp ui : Int32}
theorem op_read (hS : St A k h ss cg cw cV qg qw qV uR uk) (hT : Tx L t xl xS ul uX) (x1 : Int32) : Wp_X6_read ss sq cg cw cV qg qw qV xl xS xV xt xp x1 (fun r ss' sq' cV' qg' qw' qV' xV' xt' xp' => Wp_X7_read uR uk uX ul uT ui x1 (fun r' uR' uk' uT' ui' => r = r' ∧ Af A sq ss' sq' cg cw cV' qg' qw' qV' uR' uk')) := by
  have hS0 := hS
  obtain ⟨⟨hn, ho, hv⟩, hk, hh, -, ⟨hcg, hcw, hcV⟩, hcH, hmR, -, hmH⟩ := hS
  obtain ⟨hL, ht, rfl, rfl, hxS, huX⟩ := hT
  obtain ⟨n, o, v⟩ := A
  have hcg : cg = nI n := hcg
  subst hcg
  have hn : n ≤ 4 := hn
  have ho : okO n o := ho
  have hv : okV v := hv
  refine w_isGuest hn (fun g hg e => ?_) (fun hno => ⟨fun q => absurd rfl q, fun _ => ?_⟩)
  · refine ⟨fun _ => ?_, fun q => absurd q (by decide)⟩
    subst e
    refine w_findFailure (V := fun _ => 0) hL ht hxS (fun V' q xV' xt' xp' hr hV => ?_) (fun q xV' xt' xp' hr hq => ?_)
    · refine ⟨fun _ => ?_, fun q => absurd rfl q⟩
      refine act hS0 (fun qg' qw' qV' c1 => ?_)
      have h9 := rd_ok 25 0 0 _ V' q (Nat.zero_le _) (fun i hi => absurd hi (by omega)) hr
      refine w_takeValues (g := g) (by omega) (fun cV' t1 t2 => ?_)
      have hV' : rV (up v g V') cV' := fun g2 c hg2 hc => by
        by_cases e : g2 = g
        · subst e
          rw [up_s, t2 c hc, hV c hc]
        · rw [up_n e, t1 g2 e]
          exact hcV g2 c hg2 hc
      refine w_total (by omega) hV' ?_
      refine w7_isGuest hn hmR.R0 (fun _ _ _ => ?_) (fun hno => absurd rfl (hno g hg))
      refine ⟨fun _ => ?_, fun q => absurd q (by decide)⟩
      refine w7_reads (V := fun _ => 0) hL ht huX (fun V2 q2 uT' hr2 hV2 => ?_) (fun q2 uT' hr2 _ => by rw [hr] at hr2; cases hr2)
      rw [hr] at hr2
      cases hr2
      refine ⟨fun _ => ?_, fun q => absurd rfl q⟩
      refine act7 hS0 (fun R' m1 m2 => ?_)
      have key : ∀ d c R2, c + d = 24 → (∀ j, j < c → R2 (25 + 24 * g + j) = nI (V' j)) → (∀ g2 j, g2 < 4 → j < 24 → (g2 ≠ g ∨ c ≤ j) → R2 (25 + 24 * g2 + j) = nI (v g2 j)) → fV R' R2 → Wp_X7_read_42 uX (nI L) (nI g) (fun r' uR' uk' uT' ui' => nI (To (up v g V') g) = r' ∧ Af (n, o, v) sq (nI (recK k)) 0 (nI n) cw cV' qg' qw' qV' uR' uk') (nI c) R2 (nI (recK k)) uT' (-9) := by
        intro d
        induction d with
        | zero =>
          intro c R2 hcd r1 r2 rf
          refine F_X7_read_42 _ _ _ _ _ _ _ _ _ ?_
          refine pk_le 24 c (fun _ => ?_) (fun q => absurd q (by omega))
          have rV' : mV (up v g V') R2 := fun g2 j hg2 hj => by
            by_cases e : g2 = g
            · subst e
              rw [up_s]
              exact r1 j (by omega)
            · rw [up_n e]
              exact r2 g2 j hg2 hj (Or.inl e)
          refine w7_total (by omega) rV' ⟨rfl, ?_⟩
          refine ⟨(n, o, up v g V'), recK k, recH k h (n, o, v), ⟨⟨hn, ho, fun g2 j hg2 hj => ?_⟩, recK_le hk, recH_ok hk hh ⟨hn, ho, hv⟩, rfl, ⟨rfl, hcw, hV'⟩, c1, m1.setV rV' rf, rfl, m2.fV rf⟩, Or.inl rfl⟩
          show up v g V' g2 j ≤ 9
          by_cases e : g2 = g
          · subst e
            rw [up_s]
            exact h9 j hj
          · rw [up_n e]
            exact hv g2 j hg2 hj
        | succ d ih =>
          intro c R2 hcd r1 r2 rf
          refine F_X7_read_42 _ _ _ _ _ _ _ _ _ ?_
          refine pk_le 24 c (fun q => absurd q (by omega)) (fun _ => ⟨q_in (by omega), ?_⟩)
          rw [ix_v, q_cl (25 + 24 * g + c) (by omega), nI_1, q_cl c]
          refine ⟨q_in (by omega), ?_⟩
          refine ih (c + 1) _ (by omega) (fun j hj => ?_) (fun g2 j hg2 hj hor => ?_) (fun j hj => ?_)
          · by_cases e : j = c
            · subst e
              rw [pk_us]
              exact hV2 j (by omega)
            · rw [pk_un (by omega)]
              exact r1 j (by omega)
          · rw [pk_un (by omega)]
            exact r2 g2 j hg2 hj (by omega)
          · rw [pk_un (by omega)]
            exact rf j hj
      exact key 24 0 R' (by omega) (fun j hj => absurd hj (by omega)) (fun g2 j hg2 hj _ => m1.V g2 j hg2 hj) (fun _ _ => rfl)
    · refine ⟨fun q2 => (nI_n1 (by omega) q2).elim, fun _ => ?_⟩
      refine w7_isGuest hn hmR.R0 (fun _ _ _ => ?_) (fun hno => absurd rfl (hno g hg))
      refine ⟨fun _ => ?_, fun q => absurd q (by decide)⟩
      refine w7_reads (V := fun _ => 0) hL ht huX (fun V2 q2 uT' hr2 hV2 => by rw [hr] at hr2; cases hr2) (fun q2 uT' hr2 _ => ?_)
      rw [hr] at hr2
      cases hr2
      exact ⟨fun q2 => (nI_n9 (by omega) q2).elim, fun _ => ⟨rfl, hS0.same⟩⟩
  · refine w7_isGuest hn hmR.R0 (fun g hg e => absurd e (hno g hg)) (fun _ => ?_)
    exact ⟨fun q => absurd rfl q, fun _ => ⟨rfl, hS0.same⟩⟩
end READS
