/-! the state that both sides begin with -/
def A0 : CA := (0, fun _ => 0, fun _ _ => 0)
theorem z0w : ∀ c, c < 24 → z0_X0_init_1 c = -1 := by decide
theorem z0m : ∀ c, c < 24 → z0_X7_init_1 (0 + (1 + c)) = -9 := by decide
theorem z0v : ∀ j, j < 96 → z0_X7_init_1 (25 + j) = 0 := by decide
theorem z00 : z0_X7_init_1 0 = 0 := by decide
theorem St0 (h : Nat → CA) (qg : Nat → Int32) (qw : Nat → Nat → Int32) (qV : Nat → Nat → Nat → Int32) : St A0 0 h 0 0 z0_X0_init_1 (fun _ _ => 0) qg qw qV z0_X7_init_1 0 := by
  refine ⟨⟨Nat.zero_le _, fun _ _ => Nat.zero_le _, fun _ _ _ _ => Nat.zero_le _⟩, Nat.zero_le _, fun i hi => absurd hi (by omega), rfl, ⟨rfl, fun c hc => z0w c hc, fun _ _ _ _ => rfl⟩, fun i hi => absurd hi (by omega), ⟨z00, fun c hc => z0m c hc, fun g c hg hc => ?_⟩, rfl, fun i hi => absurd hi (by omega)⟩
  have := z0v (24 * g + c) (by omega)
  rw [← Nat.add_assoc] at this
  rw [Nat.zero_add]
  exact this
theorem Tx0 (xS uX : Nat → Int32) : Tx 0 (fun _ => 0) 0 xS 0 uX := ⟨Nat.zero_le _, fun i hi => absurd hi (by omega), rfl, rfl, fun i hi => absurd hi (by omega), fun i hi => absurd hi (by omega)⟩
theorem Ca_of {A A' : CA} {sq sq' fp ft fg : Int32} {fS : Nat → Int32} {Qc Qg Qk : Int32} (h : Ca A sq fp ft fg fS Qc Qg Qk) (hs : sq' = 0 ∨ (sq' = sq ∧ A' = A)) : Ca A' sq' fp ft fg fS Qc Qg Qk := by
  rcases hs with e | ⟨rfl, rfl⟩
  · exact Or.inl e
  · exact h
