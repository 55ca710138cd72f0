/-! the reference: a day's end -/
theorem rem49b {C : Cf} {M M0 : Mem} {u : Nat} {σ : Sm} {τ : Nat → Sm} (hc : C.2.1 ≤ 6) (hu : u < 12) (hu0 : M 174 28 = nI u) (h189 : IsR C (M 189) σ) (hτ : ∀ j, j < u → IsR C (fun k => M 188 (25 * (u - 1 - j) + k)) (τ j)) (hF : Fr rmS M0 M) : wp (f_X11_remember_49 189 M) (fun _ M' => PsR C M' (u + 1) (psh σ τ) ∧ Fr rmS M0 M') := by
  unfold f_X11_remember_49
  rw [hu0, show (25 : Int32) * nI u = nI (25 * u) from pk_mul 25 u, wp_bd]
  refine wp_mono (lay_spec (k0 := 25 * u) (by decide) rfl (by show 25 * u + 25 ≤ 300; omega) (by decide)) (fun _ M3 h => ?_)
  obtain ⟨h1, h2, h3⟩ := h
  have e28 : M3 174 28 = nI u := by rw [h3 174 (by decide)]; exact hu0
  rw [wp_ml, wp_s, e28, nI_1]
  refine ⟨⟨up_self _ _ _ _, fun j hj => ?_⟩, ?_⟩
  · unfold psh
    by_cases h0 : j = 0
    · subst h0
      rw [if_pos rfl]
      refine IsR.eq hc (fun k hk => ?_) h189
      rw [up_row _ _ _ (by decide), show u + 1 - 1 - 0 = u by omega]
      exact h1 k hk
    · rw [if_neg h0]
      refine IsR.eq hc (fun k hk => ?_) (hτ (j - 1) (by omega))
      rw [up_row _ _ _ (by decide), show u + 1 - 1 - j = u - 1 - (j - 1) by omega]
      exact h2 _ (Or.inl (by omega))
  · intro i k hn
    have hn1 : i ≠ 188 := fun e => hn (Or.inl e)
    have hn2 : ¬ (i = 174 ∧ k = 28) := fun e => hn (Or.inr e)
    rw [up_at, if_neg hn2, h3 i hn1]
    exact hF i k hn
theorem remember189 {C : Cf} {M : Mem} {u : Nat} {σ : Sm} {τ : Nat → Sm} (hc : C.2.1 ≤ 6) (hu : u ≤ 12) (h189 : IsR C (M 189) σ) (hP : PsR C M u τ) : wp (f_X11_remember 189 M) (fun _ M' => PsR C M' (pu1 u) (psh σ τ) ∧ Fr rmS M M') := by
  obtain ⟨e1, hτ⟩ := hP
  unfold f_X11_remember f_X11_remember_0
  rw [e1]
  by_cases h12 : u = 12
  · subst h12
    rw [if_pos (by decide)]
    refine wp_for (α := Unit) (fun n _ x M => f_X11_remember_11 189 n x M) 275 (fun g _ M1 => (∀ k, k < g → M1 188 k = M 188 (k + 25)) ∧ (∀ k, g ≤ k → M1 188 k = M 188 k) ∧ ∀ i, i ≠ 188 → M1 i = M i) _ (fun n g _ M1 hg hI kk => ?_) (fun n _ M1 hI => ?_) 275 0 FU () M (by omega) (by decide) ⟨fun k hk => absurd hk (Nat.not_lt_zero k), fun k _ => rfl, fun i _ => rfl⟩
    · obtain ⟨i1, i2, i3⟩ := hI
      show wp (f_X11_remember_11 189 (n + 1) (nI g) M1) _
      unfold f_X11_remember_11
      rw [if_pos (show nI g < 275 from nI_lt (b := 275) hg (by decide)), show nI g + 25 = nI (g + 25) from nI_add g 25, wp_gd]
      refine ⟨nI_inb (by omega) (by decide), ?_⟩
      rw [wp_gd]
      refine ⟨nI_inb (by omega) (by decide), ?_⟩
      rw [nI_clamp (by omega), nI_clamp (by omega), wp_ml, wp_vl, nI_1]
      refine kk () _ ⟨fun k hk => ?_, fun k hk => ?_, fun i hi => ?_⟩
      · by_cases e : k = g
        · subst e; rw [up_self]; exact i2 _ (by omega)
        · rw [up_col _ _ _ e]; exact i1 k (by omega)
      · rw [up_col _ _ _ (by omega)]; exact i2 k (by omega)
      · rw [up_row _ _ _ hi]; exact i3 i hi
    · obtain ⟨i1, i2, i3⟩ := hI
      show wp (f_X11_remember_11 189 (n + 1) (nI 275) M1) _
      unfold f_X11_remember_11
      rw [if_neg (show ¬ nI 275 < 275 by decide), wp_ml, i3 174 (by decide), e1, show nI 12 - 1 = nI 11 by decide]
      refine wp_mono (rem49b (M0 := M) (u := 11) (σ := σ) (τ := τ) hc (by decide) (up_self _ _ _ _) ?_ (fun j hj => ?_) ?_) (fun _ M' h => h)
      · rw [up_row _ _ _ (by decide), i3 189 (by decide)]; exact h189
      · refine IsR.eq hc (fun k hk => ?_) (hτ j (by omega))
        rw [up_row _ _ _ (by decide), i1 _ (by omega)]
        congr 1
        omega
      · intro i k hn
        have hn1 : i ≠ 188 := fun e => hn (Or.inl e)
        have hn2 : ¬ (i = 174 ∧ k = 28) := fun e => hn (Or.inr e)
        rw [up_at, if_neg hn2, i3 i hn1]
  · rw [if_neg (show ¬ nI u = 12 from fun z => h12 ((nI_eq (b := 12) (by omega) (by decide)).mp z))]
    rw [show pu1 u = u + 1 by unfold pu1; rw [if_pos (by omega)]]
    exact rem49b hc (by omega) e1 h189 hτ Fr.rf
theorem d147 {C : Cf} {M : Mem} {σ : Sm} {u n k s : Nat} {τ : Nat → Sm} (hc : C.2.1 ≤ 6) (hu : u ≤ 12) (hn : n ≤ 100) (hk : k ≤ n) (h189 : IsR C (M 189) σ) (hP : PsR C M u τ) (hs : M 174 34 = nI s) : wp (f_X11_day_147 (nI n) (nI k) M) (fun r M' => r = nI k ∧ RwR M' [if k < n then 1 else 0, nI s] ∧ (if 0 < k then PsR C M' (pu1 u) (psh σ τ) else PsR C M' u τ) ∧ Fr (fun i q => rmS i q ∨ rrS i q) M M') := by
  have tail : ∀ (M1 : Mem) (P : Mem → Prop), (∀ M2, Fr rrS M1 M2 → P M2) → M1 174 34 = nI s → Fr rmS M M1 → wp (f_X11_day_159 (nI n) (nI k) M1) (fun r M' => r = nI k ∧ RwR M' [if k < n then 1 else 0, nI s] ∧ P M' ∧ Fr (fun i q => rmS i q ∨ rrS i q) M M') := by
    intro M1 P hP1 hs1 hF1
    obtain ⟨w1, w2⟩ := rowr0 M1
    have go : ∀ b : Int32, b = (if k < n then 1 else 0) → wp (f_X11_day_175 (nI k) b (up M1 174 13 0)) (fun r M' => r = nI k ∧ RwR M' [if k < n then 1 else 0, nI s] ∧ P M' ∧ Fr (fun i q => rmS i q ∨ rrS i q) M M') := by
      intro b hb
      unfold f_X11_day_175
      rw [wp_bd]
      refine wp_mono (tellr_spec b w1 (by decide)) (fun _ M2 q => ?_)
      obtain ⟨q1, q2⟩ := q
      rw [q2 174 34 (by unfold rrS; omega), up_col _ _ _ (by decide), hs1, wp_bd]
      refine wp_mono (tellr_spec (nI s) q1 (by show 1 < 16; decide)) (fun _ M3 z => ?_)
      obtain ⟨z1, z2⟩ := z
      rw [wp_s]
      have hF : Fr rrS M1 M3 := (w2.tr q2).tr z2
      exact ⟨rfl, by rw [← hb]; exact z1, hP1 M3 hF, (hF1.mn (fun i q z => Or.inl z)).tr (hF.mn (fun i q z => Or.inr z))⟩
    unfold f_X11_day_159
    rw [wp_ml]
    by_cases h : k < n
    · rw [if_pos (nI_lt h (by omega))]
      exact go 1 (by rw [if_pos h])
    · rw [if_neg (nI_nlt (by omega) (by omega))]
      exact go 0 (by rw [if_neg h])
  unfold f_X11_day_147
  by_cases h0 : 0 < k
  · rw [if_pos (nIp h0 (by omega)), wp_bd]
    simp only [if_pos h0]
    refine wp_mono (remember189 hc hu h189 hP) (fun _ M1 q => ?_)
    exact tail M1 _ (fun M2 h => q.1.eq hc (h 174 28 (by unfold rrS; omega)) (fun k => h 188 k (by unfold rrS; omega))) ((q.2 174 34 (by unfold rmS; omega)).trans hs) q.2
  · have hk0 : k = 0 := by omega
    rw [if_neg (show ¬ (0 : Int32) < nI k by rw [hk0]; decide)]
    simp only [if_neg h0]
    exact tail M _ (fun M2 h => hP.eq hc (h 174 28 (by unfold rrS; omega)) (fun k => h 188 k (by unfold rrS; omega))) hs Fr.rf
