/-! rules over the heap: fields, arrays -/
theorem ctab : ∀ (ci : Nat) (q : vw_C), vwCl[ci]? = some q → (∀ w ∈ u_ws q.1 q.2.1 q.2.2, w ∈ wsA) ∧ (∀ k, k < q.2.2 → parseFieldDescriptor (q.2.1 k).2.2.1 = some (tyF ci k)) ∧ (∀ a, a < q.2.2 → ∀ b, b < q.2.2 → a ≠ b → (q.2.1 a).2.1 ≠ (q.2.1 b).2.1) ∧ nF ci = q.2.2 ∧ ci < 12 := by
  intro ci q h
  match ci, h with
  | 0, h => cases h; exact ⟨by decide +kernel, tyX0_ok, nmX0, rfl, by decide⟩
  | 1, h => cases h; exact ⟨by decide +kernel, tyX1_ok, nmX1, rfl, by decide⟩
  | 2, h => cases h; exact ⟨by decide +kernel, tyX2_ok, nmX2, rfl, by decide⟩
  | 3, h => cases h; exact ⟨by decide +kernel, tyX3_ok, nmX3, rfl, by decide⟩
  | 4, h => cases h; exact ⟨by decide +kernel, tyX4_ok, nmX4, rfl, by decide⟩
  | 5, h => cases h; exact ⟨by decide +kernel, tyX5_ok, nmX5, rfl, by decide⟩
  | 6, h => cases h; exact ⟨by decide +kernel, tyX6_ok, nmX6, rfl, by decide⟩
  | 7, h => cases h; exact ⟨by decide +kernel, tyX7_ok, nmX7, rfl, by decide⟩
  | 8, h => cases h; exact ⟨by decide +kernel, tyX8_ok, nmX8, rfl, by decide⟩
  | 9, h => cases h; exact ⟨by decide +kernel, tyX9_ok, nmX9, rfl, by decide⟩
  | 10, h => cases h; exact ⟨by decide +kernel, tyX10_ok, nmX10, rfl, by decide⟩
  | 11, h => cases h; exact ⟨by decide +kernel, tyX11_ok, nmX11, rfl, by decide⟩
  | ci + 12, h => simp [vwCl] at h
