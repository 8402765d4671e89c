/-! the law's small methods, by what they tell -/
theorem w_Llow {a0 : Int32} {m : Nat} {Z : Int32 → Prop} (h1 : 1 ≤ m) (h2 : m < 2 ^ 31) (hz : ∀ j, j < m → Z (nI j)) : Wp_L_low a0 (nI m) Z := by
  obtain ⟨x, hx, e⟩ := pk_andE a0 (m := 2147483647) 31 (by decide)
  refine ⟨nI_ne0 h1 h2, ?_⟩
  rw [e, pk_rem hx h1 h2]
  exact hz _ (Nat.mod_lt _ h1)
section LAWP
variable {n k g : Nat} {o : Nat → Nat} {v : Nat → Nat → Nat} {h : Nat → CA}
theorem w_Lworth {y : Nat} {Z : Int32 → Prop} (hA : okA (n, o, v)) (hg : g < n) (hy : y ≤ n) (hz : Z (nI (Wo v o g y))) : Wp_L_worth ((n, o, v), k, h) (nI g) (oM y) Z := by
  obtain ⟨hn, ho', hv⟩ := hA
  have hn : n ≤ 4 := hn
  have ho' : okO n o := ho'
  have key : ∀ d c s, c + d = 24 → Z (nI (s + sg (wo v o g y) c d)) → Wp_L_worth_5 ((n, o, v), k, h) (nI g) (oM y) Z (nI s) (nI c) := by
    intro d
    induction d with
    | zero =>
      intro c s hcd hz
      refine F_L_worth_5 _ _ _ _ _ _ ?_
      exact pk_le 24 c (fun _ => hz) (fun q => absurd q (by omega))
    | succ d ih =>
      intro c s hcd hz
      refine F_L_worth_5 _ _ _ _ _ _ ?_
      have hc : c < 24 := by omega
      have hoc := ho' c hc
      have e2 : sg (wo v o g y) c (d + 1) = wo v o g y c + sg (wo v o g y) (c + 1) d := rfl
      refine pk_le 24 c (fun q => absurd q (by omega)) (fun _ => q_crumb hc ?_)
      rw [e2, ← Nat.add_assoc] at hz
      refine pm_ne (o c) y (fun q => ?_) (fun q => ?_)
      · have e3 : wo v o g y c = 0 := if_neg q
        rw [e3] at hz
        rw [nI_1, Int32.add_zero]
        exact ih (c + 1) s (by omega) hz
      · have e3 : wo v o g y c = v g c := if_pos q
        rw [e3] at hz
        refine q_value hg hc ?_
        rw [nI_1, nI_add]
        exact ih (c + 1) (s + v g c) (by omega) hz
  refine key 24 0 0 (by omega) ?_
  rw [Nat.zero_add]
  exact hz
/-- what is told of a cake, sign by sign -/
def tl2 (v : Nat → Nat → Nat) (c : Nat) : Nat → Nat → Int64 → Int64
  | 0, _, x => x
  | d + 1, g, x => tl2 v c d (g + 1) ((31 : Int64) * x + (nI (v g c)).toInt64)
def tl1 (n : Nat) (o : Nat → Nat) (v : Nat → Nat → Nat) : Nat → Nat → Int64 → Int64
  | 0, _, x => x
  | d + 1, c, x => tl1 n o v d (c + 1) (tl2 v c n 0 ((31 : Int64) * x + (oM (o c)).toInt64))
def tld (A : CA) : Int64 := tl1 A.1 A.2.1 A.2.2 24 0 (nI A.1).toInt64
theorem w_Ltold {Z : Int64 → Prop} (hA : okA (n, o, v)) (hz : Z (tld (n, o, v))) : Wp_L_told ((n, o, v), k, h) Z := by
  obtain ⟨hn, ho', hv⟩ := hA
  have hn : n ≤ 4 := hn
  refine q_count0 ?_
  have inner : ∀ d c g x, g + d = n → c < 24 → Wp_L_told_9 ((n, o, v), k, h) Z (tl2 v c d g x) (nI (c + 1)) → Wp_L_told_31 ((n, o, v), k, h) Z x (nI c) (nI g) := by
    intro d
    induction d with
    | zero =>
      intro c g x hgd hc hnext
      refine F_L_told_31 _ _ _ _ _ (q_count0 ?_)
      refine pk_le n g (fun _ => ?_) (fun q => absurd q (by omega))
      rw [nI_1]
      exact hnext
    | succ d ih =>
      intro c g x hgd hc hnext
      refine F_L_told_31 _ _ _ _ _ (q_count0 ?_)
      refine pk_le n g (fun q => absurd q (by omega)) (fun _ => q_value (by omega) hc ?_)
      rw [nI_1]
      exact ih c (g + 1) _ (by omega) hc hnext
  have outer : ∀ d c x, c + d = 24 → Z (tl1 n o v d c x) → Wp_L_told_9 ((n, o, v), k, h) Z x (nI c) := by
    intro d
    induction d with
    | zero =>
      intro c x hcd hz
      refine F_L_told_9 _ _ _ _ ?_
      exact pk_le 24 c (fun _ => hz) (fun q => absurd q (by omega))
    | succ d ih =>
      intro c x hcd hz
      refine F_L_told_9 _ _ _ _ ?_
      refine pk_le 24 c (fun q => absurd q (by omega)) (fun _ => q_crumb (by omega) ?_)
      exact inner n c 0 _ (by omega) (by omega) (ih (c + 1) _ (by omega) hz)
  exact outer 24 0 _ (by omega) hz
theorem w_Lring {Z : Int32 → Prop} (hA : okA (n, o, v)) (hz : Z 1) : Wp_L_ring ((n, o, v), k, h) Z := by
  obtain ⟨hn, ho', hv⟩ := hA
  have hn : n ≤ 4 := hn
  have ho' : okO n o := ho'
  have hv : okV v := hv
  have har := ar_le (v := v) (o := o) hn
  cases hr : ringA (Eo v o) n with
  | none =>
    refine F_L_ring_2 _ _ _ ?_
    refine ⟨fun q => absurd q (by decide), fun _ => q_ring (P := 0) (by omega) (fun l hl => by rw [hr] at hl; cases hl) (fun _ => ?_)⟩
    exact ⟨fun _ => ⟨fun q => absurd rfl q, fun _ => hz⟩, fun q => absurd rfl q⟩
  | some l =>
    obtain ⟨a1, a2, a3, a4, a5, a6, a7⟩ := ring_told hn hr
    have a8 := ring_ar hn hr
    have ask : ∀ {P : Nat} {Y : Int32 → Prop}, P < 100 → Y (if P < l.length then nI (l.getD P 0) else -9) → Wq_ring ((n, o, v), k, h) (nI P) Y := fun {P} {Y} hP hY => q_ring (by omega) (fun l' hl' => by rw [hr] at hl'; cases hl'; exact hY) (fun hl' => by rw [hr] at hl'; cases hl')
    have turn : ∀ d i, i + d = l.length → Wp_L_ring_60 ((n, o, v), k, h) Z (nI l.length) 1 (nI i) := by
      intro d
      induction d with
      | zero =>
        intro i hi
        refine F_L_ring_60 _ _ _ _ _ ?_
        exact pk_le l.length i (fun _ => ⟨rfl, hz⟩) (fun q => absurd q (by omega))
      | succ d ih =>
        intro i hi
        refine F_L_ring_60 _ _ _ _ _ ?_
        have hil : i < l.length := by omega
        have hnx : nx l.length i < l.length := by unfold nx; split <;> omega
        have b3 := a3 i hil
        have b3' := a3 _ hnx
        have b30 := a3 0 (by omega)
        have b4 := a4 i hil
        have b5 := a5 i hil
        refine pk_le l.length i (fun q => absurd q (by omega)) (fun _ => ⟨fun q => absurd q (by decide), fun _ => ⟨nI_ne0 (by omega) (by omega), ?_⟩⟩)
        have e1 : (nI i + 1) - (nI i + 1) / nI l.length * nI l.length = nI (nx l.length i) := by
          rw [nI_1, pk_rem (by omega) (by omega) (by omega)]
          congr 1
          unfold nx
          split
          · exact Nat.mod_eq_of_lt (by omega)
          · have : i + 1 = l.length := by omega
            rw [this, Nat.mod_self]
        have e2 : nI i + 1 = nI (i + 1) := nI_1 i
        rw [e1, e2]
        refine ask (by omega) ?_
        rw [if_pos hnx]
        refine ask (by omega) ?_
        rw [if_pos hil]
        refine ask (P := 0) (by omega) ?_
        rw [if_pos (show 0 < l.length by omega)]
        refine pk_lt (l.getD i 0) (l.getD 0 0) (fun q => absurd q (by omega)) (fun _ => ?_)
        refine ask (by omega) ?_
        rw [if_pos hil]
        refine q_envy (g := l.getD i 0) (j := l.getD (nx l.length i) 0) b3 b3' (fun e => ?_) ?_
        · rw [← e, En_self] at b5
          omega
        · have b6 := En_le (o := o) (k := l.getD (nx l.length i) 0) hv (show l.getD i 0 < 4 by omega)
          refine pk_le (En v o (l.getD i 0) (l.getD (nx l.length i) 0)) 0 (fun q => absurd q (by omega)) (fun _ => ?_)
          refine pk_eq i 0 (fun _ => ih (i + 1) (by omega)) (fun hi0 => ?_)
          refine ask (by omega) ?_
          rw [if_pos hil]
          refine ask (P := 0) (by omega) ?_
          rw [if_pos (show 0 < l.length by omega)]
          exact pk_eq (l.getD i 0) (l.getD 0 0) (fun q => absurd q (b4.2 hi0)) (fun _ => ih (i + 1) (by omega))
    have join : ∀ (J2 : Int32 → Prop), K_L_ring_23 ((n, o, v), k, h) Z J2 (Wp_L_ring_60 ((n, o, v), k, h) Z) (nI l.length) := fun J2 => by
      refine pq_ne l.length 0 (fun _ => ?_) (fun q => absurd q (by omega))
      refine pk_le l.length 1 (fun q => absurd q (by omega)) (fun _ => q_count0 ?_)
      refine pk_lt n l.length (fun q => absurd q (by omega)) (fun _ => q_count2 ?_)
      exact pk_lt (ar v o n) l.length (fun q => absurd q (by omega)) (fun _ => turn l.length 0 (by omega))
    have count : ∀ d i, i + d = l.length → Wp_L_ring_2 ((n, o, v), k, h) Z (nI i) := by
      intro d
      induction d with
      | zero =>
        intro i hi
        refine F_L_ring_2 _ _ _ ?_
        have e : i = l.length := by omega
        subst e
        refine pk_le 5 l.length (fun q => absurd q (by omega)) (fun _ => ask (by omega) ?_)
        rw [if_neg (by omega)]
        exact ⟨fun _ => join _, fun q => absurd rfl q⟩
      | succ d ih =>
        intro i hi
        refine F_L_ring_2 _ _ _ ?_
        have b3 := a3 i (by omega)
        refine pk_le 5 i (fun q => absurd q (by omega)) (fun _ => ask (by omega) ?_)
        rw [if_pos (by omega), nI_1]
        refine ⟨fun q => ?_, fun _ => ih (i + 1) (by omega)⟩
        have := congrArg Int32.toInt q
        rw [nI_toInt (by omega)] at this
        have e9 : ((-9 : Int32)).toInt = -9 := by decide
        omega
    exact count l.length 0 (by omega)
end LAWP
