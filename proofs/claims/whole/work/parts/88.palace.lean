/-! rule, palace -/
theorem txN_eq {M M' : Mem} (h : ∀ k, M' 2 k = M 2 k) : txN M' = txN M := funext fun k => by unfold txN; rw [h k]
theorem st_rule {N : Nat} {M : Mem} (hN : N < 512) (h : Cpl N M) : Both N f_X10_rule f_X11_rule M := by
  obtain ⟨⟨C, σ, hI⟩, hR⟩ := h
  obtain ⟨a1, a2, a3, a4, a5, a6, a7, a8, a9, a10, ⟨R, t, b1, b2, b3⟩, a12⟩ := id hI
  have c1 := a1.1
  have c2 := a1.2.1
  obtain ⟨L, hTL⟩ := a9.tl
  obtain ⟨l80, e1, e2, ht⟩ := id hTL
  -- taken
  have take : ∀ (M2 : Mem), Fr voS M M2 → L ≤ 40 → vld L (txN M) → (L = 0 ∨ rlF (txN M) L = none) → wp (bd (f_X3_take M2) fun _ M8 => bd (f_X1_reckon M8) fun _ M11 => f_X10_rule_41 (-1) M11) (fun r M1 => wp (f_X11_rule M1) (fun r' M2 => r' = r ∧ Cpl (N + 1) M2)) := by
    intro M2 hF2 hL40 hv hcase
    have hT2 : TL M2 L := ⟨l80, (hF2 1 1 (by unfold voS; omega)).trans e1, (hF2 174 11 (by unfold voS; omega)).trans e2, fun k hk => by
      rw [txN_eq (M := M) (M' := M2) (fun k => hF2 2 k (by unfold voS; omega)), hF2 2 k (by unfold voS; omega), hF2 183 k (by unfold voS; omega)]
      exact ht k hk⟩
    rw [wp_bd]
    refine wp_mono (take_spec hT2 hL40) (fun _ M3 q => ?_)
    obtain ⟨q1, q2, q3⟩ := q
    rw [txN_eq (M := M) (M' := M2) (fun k => hF2 2 k (by unfold voS; omega))] at q2
    have e3 : ∀ i k, i ≠ 23 → i ≠ 24 → M3 i k = M i k := fun i k h1 h2 => (q3 i k (by omega)).trans (hF2 i k (by unfold voS; omega))
    have hRu : RuC M3 L (txN M) := ⟨hL40, q1, fun k hk => ⟨(ht k (by omega)).1, q2 k hk⟩, hv⟩
    rw [wp_bd]
    refine wp_mono (reckon_spec c1 c2 ((HsC.of a5).fr (fun i k hi => e3 i k (by omega) (by omega))) hRu) (fun _ M4 z => ?_)
    obtain ⟨z1, z2⟩ := z
    unfold f_X10_rule_41 f_X10_rule_61
    rw [wp_ml, if_pos rfl, wp_s]
    have ec : ∀ i k, i ≠ 23 → i ≠ 24 → ¬ (17 ≤ i ∧ i ≤ 22) → ¬ (i = 1 ∧ k = 1) → up M4 1 1 0 i k = M i k := fun i k h1 h2 h3 h4 => by rw [up_at, if_neg h4, z2 i k (by unfold reS; omega)]; exact e3 i k h1 h2
    have hge : ∀ i k, 174 ≤ i → up M4 1 1 0 i k = M i k := fun i k hi => ec i k (by omega) (by omega) (by omega) (by omega)
    refine wp_mono (rule_ref (t := txN M) l80 ((hge 174 11 (by decide)).trans e2) (fun k hk => ⟨(ht k hk).1, (hge 183 k (by decide)).trans (ht k hk).2.2⟩)) (fun r Mr y => ?_)
    obtain ⟨y1, y2, y3⟩ := y
    have y4 : r = 0 ∧ Mr 174 22 = nI L ∧ ∀ k, k < L → Mr 186 k = sB (txN M k) := by
      by_cases h0 : L = 0
      · rw [if_pos h0] at y1
        exact ⟨y1.1, by rw [h0]; exact y1.2.1, fun k hk => by omega⟩
      · rw [if_neg h0] at y1
        rcases hcase with hc | hc
        · exact absurd hc h0
        · rw [hc] at y1
          exact y1
    have lo : ∀ i k, i < 174 → Mr i k = up M4 1 1 0 i k := fun i k hi => y3 i k (by omega)
    have e0 : ∀ i k, i ≠ 23 → i ≠ 24 → ¬ (17 ≤ i ∧ i ≤ 22) → ¬ (i = 1 ∧ k = 1) → i ≠ 186 → ¬ (i = 174 ∧ (k = 11 ∨ k = 14 ∨ (15 ≤ k ∧ k ≤ 19) ∨ k = 22 ∨ k = 23)) → Mr i k = M i k := fun i k h1 h2 h3 h4 h5 h6 => (y3 i k (by omega)).trans (ec i k h1 h2 h3 h4)
    refine ⟨y4.1, ⟨C' C (nst Mr C L (txN M)), σ, hI.mz.re (R := L) (t := txN M) hN ?_ ?_ ?_ ?_ ?_⟩, ?_⟩
    · intro i k hn
      unfold reX scr scr0 at hn
      by_cases g1 : i = 1 ∧ k = 1
      · obtain ⟨rfl, rfl⟩ := g1
        rw [lo 1 1 (by decide), up_self]
        unfold Mz
        rw [up_row _ _ _ (by decide), up_self]
      · by_cases g2 : i = 174 ∧ k = 11
        · obtain ⟨rfl, rfl⟩ := g2
          rw [y2]
          unfold Mz
          rw [up_self]
        · rw [Mz_at M i k g1 g2]
          by_cases g3 : i = 23
          · subst g3
            rw [lo 23 k (by decide), up_row _ _ _ (by decide), z2 23 k (by unfold reS; omega), q3 23 k (by omega)]
            exact hF2 23 k (by unfold voS; omega)
          · exact e0 i k g3 (by omega) (by omega) g1 (by omega) (by omega)
    · intro j hj
      obtain ⟨d1, d2, d3, d4, d5, d6⟩ := a10 j hj
      have f : ∀ i k, i = 5 ∨ i = 6 ∨ i = 8 ∨ (10 ≤ i ∧ i ≤ 15) ∨ i = 178 ∨ i = 179 ∨ i = 181 ∨ i = 182 → Mr i k = M i k := fun i k hi => e0 i k (by omega) (by omega) (by omega) (by omega) (by omega) (by omega)
      obtain ⟨z, z1, z2, z3⟩ := d4
      obtain ⟨y, y1, y2⟩ := d5
      refine ⟨?_, ?_, ?_, ⟨z, z1, z2, (f 6 j (by omega)).trans z3⟩, ⟨y, y1, (f 5 j (by omega)).trans y2⟩, fun q hq => ?_⟩
      · rw [f 5 j (by omega), f 178 j (by omega)]; exact d1
      · rw [f 6 j (by omega), f 179 j (by omega)]; exact d2
      · rw [f 8 j (by omega), f 182 j (by omega)]; exact d3
      · rw [f (10 + j) q (by omega), f 181 _ (by omega)]; exact d6 q hq
    · refine ⟨hL40, ?_, fun k hk => ⟨(ht k (by omega)).1, ?_⟩, hv⟩
      · rw [lo 23 1 (by decide), up_row _ _ _ (by decide), z2 23 1 (by unfold reS; omega)]; exact q1
      · rw [lo 24 k (by decide), up_row _ _ _ (by decide), z2 24 k (by unfold reS; omega)]; exact q2 k hk
    · exact ⟨hL40, y4.2.1, fun k hk => ⟨(ht k (by omega)).1, y4.2.2 k hk⟩, hv⟩
    · intro j hj q hq
      rw [lo (17 + j) q (by omega), up_row _ _ _ (by omega), z1 j hj q hq]
      unfold stV
      rw [lo 8 j (by omega), lo (10 + j) q (by omega), lo 6 j (by omega), up_row _ _ _ (by omega), up_row _ _ _ (by omega), up_row _ _ _ (by omega), z2 8 j (by unfold reS; omega), z2 (10 + j) q (by unfold reS; omega), z2 6 j (by unfold reS; omega)]
    · exact row_ne hR (fun i k q => e0 i k (by omega) (by omega) (by omega) (by omega) (by omega) (by omega))
  unfold Both f_X10_rule f_X10_rule_0
  by_cases h0 : L = 0
  · have hf : f_X3_faultOf M = some (-1, M) := by
      unfold f_X3_faultOf f_X3_faultOf_0
      rw [e1, h0, if_pos (by decide)]
    rw [hf, bd_e, if_pos rfl]
    exact take M Fr.rf (by omega) (fun z => by omega) (Or.inl h0)
  · rw [wp_bd]
    refine wp_mono (fault_cls hTL (by omega)) (fun r M2 q => ?_)
    obtain ⟨q1, q2, q3⟩ := q
    cases er : rlF (txN M) L with
    | none =>
      rw [er] at q1
      have hs := rlF_some er
      rw [q1, if_pos rfl]
      exact take M2 q3 hs.1 (fun _ => hs.2) (Or.inr er)
    | some f =>
      rw [er] at q1
      have hf := q2 f er
      have q1' : r = nI f := q1
      have hne : ¬ nI f = -1 := nI_neq (by omega)
      unfold f_X10_rule_41 f_X10_rule_61
      rw [q1', if_neg hne, wp_ml, if_neg hne, wp_s]
      have hge : ∀ i k, 174 ≤ i → up M2 1 1 0 i k = M i k := fun i k hi => by rw [up_row _ _ _ (by omega)]; exact q3 i k (by unfold voS; omega)
      refine wp_mono (rule_ref (t := txN M) l80 ((hge 174 11 (by decide)).trans e2) (fun k hk => ⟨(ht k hk).1, (hge 183 k (by decide)).trans (ht k hk).2.2⟩)) (fun r' Mr y => ?_)
      obtain ⟨y1, y2, y3⟩ := y
      rw [if_neg h0, er] at y1
      have y1' : r' = -1 - nI f ∧ Fr (fun i k => i = 174 ∧ k ≠ 22) (up M2 1 1 0) Mr := y1
      refine ⟨y1'.1, z_same hI hN hR (fun i k hn => ?_)⟩
      unfold scr0 at hn
      by_cases g1 : i = 1 ∧ k = 1
      · obtain ⟨rfl, rfl⟩ := g1
        rw [y3 1 1 (by omega), up_self]
        unfold Mz
        rw [up_row _ _ _ (by decide), up_self]
      · by_cases g2 : i = 174 ∧ k = 11
        · obtain ⟨rfl, rfl⟩ := g2
          rw [y2]
          unfold Mz
          rw [up_self]
        · rw [Mz_at M i k g1 g2]
          by_cases g3 : i = 174
          · subst g3
            by_cases g4 : k = 22
            · subst g4
              rw [y1'.2 174 22 (fun z => z.2 rfl)]
              exact hge 174 22 (by decide)
            · rw [y3 174 k (by omega)]
              exact hge 174 k (by decide)
          · rw [y1'.2 i k (fun z => g3 z.1), up_at, if_neg g1]
            exact q3 i k (by unfold voS; omega)
