/-! the reference does an act -/
theorem act_ref {C : Cf} {M : Mem} {σ : Sm} {k s : Nat} {a : Act} (hC : COk C) (hM : CfR M C) (hT : StR M C) (hR : IsR C (M 175) σ) (hO : Ok C σ) (hB : σ.2.2.2.2 < 2 ^ 29) (hk : k + 3 ≤ 240) (ha : AcR M k a) (hA : AOk a) (hs : M 174 34 = nI s) : wp (f_X11_act (nI k) M) (fun r M' => Fr acS M M' ∧ match da C σ a with
    | none => r = 0 ∧ M' = M
    | some σ' => r = 1 ∧ IsR C (M' 175) σ' ∧ M' 174 34 = nI (s + (tc σ' - tc σ)) ∧ tc σ ≤ tc σ') := by
  have c2 := hC.2.1
  obtain ⟨e1, e2, e3⟩ := ha
  unfold f_X11_act f_X11_act_0
  rw [show nI k + 1 = nI (k + 1) from nI_1 k, show nI k + 2 = nI (k + 2) from nI_add k 2, gd_t (nI_inb (show k + 1 < 240 by omega) (by decide)), nI_clamp (show k + 1 < 2 ^ 31 by omega), wp_vl, gd_t (nI_inb (show k < 240 by omega) (by decide)), nI_clamp (show k < 2 ^ 31 by omega), e1, e2]
  unfold da
  by_cases h1 : a.1 = 109
  · have hv : a.2.1 ≤ 99 := by rcases hA with z | z | z | z <;> omega
    rw [if_pos (show nI a.1 = 109 by rw [h1]; rfl)]
    simp only [if_pos h1]
    by_cases h90 : 90 < a.2.1
    · rw [if_pos (show 90 < nI a.2.1 from nI_lt (a := 90) h90 (by omega)), wp_s]
      simp only [if_pos h90]
      exact ⟨Fr.rf, by first | rfl | trivial, by first | rfl | trivial⟩
    · rw [if_neg (show ¬ 90 < nI a.2.1 from nI_nlt (a := 90) (by omega) (by decide))]
      simp only [if_neg h90]
      refine wp_mono (act58 (σ := σ) (s := s) hC hO hv a.2.1 0 FU M (by omega) (by show a.2.1 < 2000; omega) hM hT hR (by rw [show tc (mn C 0 σ) - tc σ = 0 from Nat.sub_self _]; exact hs) (Nat.le_refl _) Fr.rf) (fun r M' q => ?_)
      exact ⟨q.2.2.2.2, q.1, q.2.1, q.2.2.1, q.2.2.2.1⟩
  have nc : ∀ c : Nat, c < 256 → a.1 ≠ c → ¬ nI a.1 = nI c := fun c hc hne z => hne (nI_inj (by rcases hA with z | z | z | z <;> omega) (by omega) z)
  rw [if_neg (show ¬ nI a.1 = 109 from nc 109 (by decide) h1)]
  simp only [if_neg h1]
  by_cases h2 : a.1 = 111
  · have hv : a.2.1 < 6 := by rcases hA with z | z | z | z <;> omega
    rw [if_pos (show nI a.1 = 111 by rw [h2]; rfl)]
    simp only [if_pos h2]
    by_cases hg : a.2.1 < C.2.1
    · rw [ri_refuses hC hM hO.toM hR rfl (by omega) hg, bd_e]
      by_cases hb : bar C σ a.2.1 = 0
      · rw [hb, if_neg (by decide), wp_bd]
        simp only [hg, hb, and_self, if_true]
        refine wp_mono (ri_goOff hC hM hT (Or.inl rfl) hR hg) (fun _ Mr q => ?_)
        obtain ⟨q1, q2⟩ := q
        rw [wp_s]
        have h0 : 0 < C.1 := hC.2.2.2.1 (by omega)
        have hfr := frm_ok (C := C) (g := a.2.1) h0
        have hc1 := hC.1
        have et : tc (off C σ a.2.1) = tc σ := by
          rw [off_eq hC hg]
          unfold tc
          refine sumB_ext (fun g hg2 => ?_)
          show (if (fs σ.1 a.2.1 (frm C a.2.1) g == 10) = true then 1 else 0) = _
          by_cases e : g = a.2.1
          · subst e
            rw [fs_s, (bar_0 hb).1]
            have : (frm C a.2.1 == 10) = false := by simp; omega
            rw [this]
            rfl
          · rw [fs_n _ _ e]
        refine ⟨q2.mn (fun i k z => Or.inl z), by first | rfl | trivial, ?_, ?_, by rw [et]; exact Nat.le_refl _⟩
        · show IsRt C (Mr 175) (off C σ a.2.1) (off C σ a.2.1).2.2.2.2
          rw [show (off C σ a.2.1).2.2.2.2 = σ.2.2.2.2 by rw [off_eq hC hg]]
          exact q1
        · rw [et, Nat.sub_self, q2 174 34 (by decide)]; exact hs
      · rw [if_pos (bar_neg hb), wp_s]
        simp only [hb, and_false, if_false]
        exact ⟨Fr.rf, by first | rfl | trivial, by first | rfl | trivial⟩
    · unfold f_X11_refusesOff f_X11_refusesOff_0
      rw [isG_f hC hM (Or.inr (nI_nlt (by omega) (by omega))), bd_e, if_pos rfl, bd_e, if_pos (by decide), wp_s]
      simp only [hg, false_and, if_false]
      exact ⟨Fr.rf, by first | rfl | trivial, by first | rfl | trivial⟩
  rw [if_neg (show ¬ nI a.1 = 111 from nc 111 (by decide) h2)]
  simp only [if_neg h2]
  by_cases h4 : a.1 = 118
  · have hv : a.2.1 < 6 ∧ 1 ≤ a.2.2 ∧ a.2.2 ≤ 9 := by rcases hA with z | z | z | z <;> omega
    have g2 : ∀ x : Option (Int32 × Mem), gd (0 ≤ nI (k + 2) ∧ (nI (k + 2)).toNatClampNeg < 240) x = x := fun x => gd_t (nI_inb (show k + 2 < 240 by omega) (by decide))
    rw [if_pos (show nI a.1 = 118 by rw [h4]; rfl), g2, nI_clamp (show k + 2 < 2 ^ 31 by omega), e3 h4]
    simp only [if_pos h4]
    by_cases hg : a.2.1 < C.2.1
    · rw [canOver_t hC hM hR hO.toM hg, bd_e]
      by_cases hi : ins (σ.1 a.2.1) = true
      · rw [b2i_t ⟨hi, nI_nlt (b := 1) hv.2.1 (by omega), nI_nlt (a := 30) (by omega) (by decide)⟩, if_neg (by decide), gd_t (nI_inc (show k + 2 < 240 by omega) (by decide)), e3 h4, wp_bd]
        simp only [hg, hi, and_self, if_true]
        refine wp_mono (goOver_spec c2 rfl hR hg (hO.2.2.2.2.1 _) (by omega)) (fun _ M' z => ?_)
        rw [wp_s]
        refine ⟨z.2.mn (fun i k z => Or.inl z), by first | rfl | trivial, z.1, ?_, Nat.le_refl _⟩
        rw [z.2 174 34 (by decide), show tc (ovr σ a.2.1 a.2.2) - tc σ = 0 from Nat.sub_self _]
        exact hs
      · rw [b2i_f (fun z => hi z.1), if_pos rfl, wp_s]
        simp only [hi, Bool.false_eq_true, and_false, if_false]
        exact ⟨Fr.rf, by first | rfl | trivial, by first | rfl | trivial⟩
    · rw [canOver_f hC hM (Or.inr (nI_nlt (by omega) (by omega))), bd_e, if_pos rfl, wp_s]
      simp only [hg, false_and, if_false]
      exact ⟨Fr.rf, by first | rfl | trivial, by first | rfl | trivial⟩
  rw [if_neg (show ¬ nI a.1 = 118 from nc 118 (by decide) h4)]
  simp only [if_neg h4]
  rw [gd_t (by decide), gd_t (by decide), wp_ml, wp_s, c24]
  obtain ⟨s1, s2, s3, s4, s5⟩ := hR
  refine ⟨Fr.rf.up (Or.inl rfl), by first | rfl | trivial, ⟨fun g hg => ?_, fun g hg => ?_, fun g hg => ?_, fun g hg => ?_, ?_⟩, ?_, Nat.le_refl _⟩
  · rw [up_col _ _ _ (by omega)]; exact s1 g hg
  · rw [up_col _ _ _ (by omega)]; exact s2 g hg
  · rw [up_col _ _ _ (by omega)]; exact s3 g hg
  · rw [up_col _ _ _ (by omega)]; exact s4 g hg
  · rw [up_self, s5, nI_add]
  · rw [up_row _ _ _ (by decide), show tc (σ.1, σ.2.1, σ.2.2.1, σ.2.2.2.1, σ.2.2.2.2 + a.2.1) - tc σ = 0 from Nat.sub_self _]
    exact hs
