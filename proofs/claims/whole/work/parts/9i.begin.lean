/-! how all begins -/
theorem m0_c : M0 1 1 = 0 ∧ M0 3 0 = 0 ∧ M0 3 2 = 0 ∧ M0 23 1 = 0 ∧ M0 120 3 = 0 ∧ M0 174 1 = 0 ∧ M0 174 3 = 0 ∧ M0 174 11 = 0 ∧ M0 174 13 = 0 ∧ M0 0 16 = 0 ∧ M0 174 22 = 0 ∧ M0 174 28 = 0 ∧ M0 174 52 = 0 ∧ M0 174 57 = 0 ∧ M0 46 2 = 0 ∧ M0 26 0 = 0 ∧ M0 26 1 = 0 ∧ M0 175 24 = 0 := by decide +kernel
theorem m0_s : ∀ g, g < 6 → M0 27 g = -1 ∧ M0 28 g = 0 ∧ M0 29 g = 0 ∧ M0 30 g = -1 := by decide +kernel
theorem m0_t : ∀ k, k < 80 → M0 2 k = 0 ∧ M0 183 k = 0 := by decide +kernel
theorem m0_k : ∀ i, i < 2 → M0 109 i = -1 ∧ M0 202 i = 0 ∧ M0 203 i = 0 := by decide +kernel
theorem m0_p : ∃ lt, lt < 12 ∧ M0 46 1 = nI lt := by
  have h : M0 46 1 = 0 ∨ M0 46 1 = 11 := by decide +kernel
  rcases h with h | h
  · exact ⟨0, by decide, h⟩
  · exact ⟨11, by decide, h⟩
