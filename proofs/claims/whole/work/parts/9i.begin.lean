/-! how all begins -/
theorem m0_c : M0 1 1 = 0 ∧ M0 3 0 = 0 ∧ M0 3 2 = 0 ∧ M0 23 1 = 0 ∧ M0 120 3 = 0 ∧ M0 174 1 = 0 ∧ M0 174 3 = 0 ∧ M0 174 11 = 0 ∧ M0 174 13 = 0 ∧ M0 0 16 = 0 ∧ M0 174 22 = 0 ∧ M0 174 28 = 0 ∧ M0 174 52 = 0 ∧ M0 174 57 = 0 ∧ M0 46 2 = 0 ∧ M0 26 0 = 0 ∧ M0 26 1 = 0 ∧ M0 175 24 = 0 := by decide +kernel
theorem m0_s : ∀ g, g < 6 → M0 27 g = -1 ∧ M0 28 g = 0 ∧ M0 29 g = 0 ∧ M0 30 g = -1 := by decide +kernel
theorem m0_t : ∀ k, k < 80 → M0 2 k = 0 ∧ M0 183 k = 0 := by decide +kernel
theorem m0_k : ∀ i, i < 2 → M0 109 i = -1 ∧ M0 202 i = 0 ∧ M0 203 i = 0 := by decide +kernel
theorem m0_p : ∃ lt, lt < 12 ∧ M0 46 1 = nI lt := by
  have h : M0 46 1 = 0 ∨ M0 46 1 = 11 := by decide +kernel
  rcases h with h | h
  · exact ⟨0, by decide, h⟩
  · exact ⟨11, by decide, h⟩
def C0 : Cf := (0, 0, fun _ => false, fun _ => false, fun _ => 0, fun _ _ => 0)
theorem cpl_0 : Cpl 0 M0 := by
  obtain ⟨b1, b2, b3, b4, b5, b6, b7, b8, b9, b10, b11, b12, b13, b14, b15, b16, b17, b18⟩ := m0_c
  obtain ⟨lt, hl1, hl2⟩ := m0_p
  have no : ∀ {P : Nat → Prop} (g : Nat), g < 0 → P g := fun g h => absurd h (Nat.not_lt_zero g)
  refine ⟨⟨C0, sm0, ⟨by decide, by decide, fun _ _ => Nat.zero_le _, fun h => absurd (show 0 < 0 from h) (by decide), fun _ => Nat.zero_le _⟩, ok_sm0 _, Nat.zero_le _, by decide, ⟨b2, b3, fun r h => absurd h (Nat.not_lt_zero r), fun g h => absurd h (Nat.not_lt_zero g)⟩, ⟨b6, b7, fun r h => absurd h (Nat.not_lt_zero r), fun g h => absurd h (Nat.not_lt_zero g)⟩, ⟨fun g hg => (m0_s g hg).1, fun g hg => (m0_s g hg).2.1, fun g hg => (m0_s g hg).2.2.1, fun g hg => (m0_s g hg).2.2.2, b16, fun r hr => ?_⟩, ⟨fun g h => absurd h (Nat.not_lt_zero g), fun g h => absurd h (Nat.not_lt_zero g), fun g h => absurd h (Nat.not_lt_zero g), fun g h => absurd h (Nat.not_lt_zero g), b18⟩, ⟨0, by decide, b1, b8, fun k hk => ⟨0, by decide, (m0_t k hk).1, (m0_t k hk).2⟩⟩, fun g h => absurd h (Nat.not_lt_zero g), ⟨0, fun _ => 0, ⟨by decide, b4, fun k h => absurd h (Nat.not_lt_zero k), fun h => absurd h (by decide)⟩, ⟨by decide, b11, fun k h => absurd h (Nat.not_lt_zero k), fun h => absurd h (by decide)⟩, fun g h => absurd h (Nat.not_lt_zero g)⟩, ⟨lt, 0, fun _ => sm0, ⟨hl1, by decide, hl2, b15, fun j h => absurd h (Nat.not_lt_zero j)⟩, ⟨b12, fun j h => absurd h (Nat.not_lt_zero j)⟩, fun j h => absurd h (Nat.not_lt_zero j)⟩, ⟨0, by decide, b14, fun i hi => ⟨0, 0, Nat.zero_le _, by decide, (m0_k i hi).1, (m0_k i hi).2.2, Or.inr ⟨by decide, Or.inl (m0_k i hi).2.1⟩⟩⟩, ⟨0, fun _ => 0, fun _ => 0, fun _ => 0, by decide, b5, b13, fun i h => absurd h (Nat.not_lt_zero i)⟩⟩, ⟨0, by decide, b10, b9, fun k h => absurd h (Nat.not_lt_zero k)⟩⟩
  rw [b17]
  have key : ∀ r, r < 32 → ¬ bit 0 (nI r) := by decide
  exact ⟨fun z => absurd z (key r hr), fun z => absurd z.1 (Nat.not_lt_zero r)⟩
