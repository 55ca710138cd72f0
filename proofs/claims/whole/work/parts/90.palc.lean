/-! palace: both -/
theorem st_palace {N : Nat} {M : Mem} (hN : N < 512) (h : Cpl N M) : Both N f_X10_palace f_X11_palace M := by
  obtain ⟨⟨C, σ, hI⟩, hR⟩ := h
  obtain ⟨a1, a2, a3, a4, a5, a6, a7, a8, a9, a10, ⟨R, t, b1, b2, b3⟩, ⟨lt, u, τ, p1, p2, p3⟩, ⟨cm, k1, k2, k3⟩, a14⟩ := id hI
  obtain ⟨L, hTL⟩ := a9.tl
  obtain ⟨l80, e1, e2, ht⟩ := id hTL
  unfold Both f_X10_palace f_X10_palace_0
  rw [fop_cls hTL, bd_e]
  have hT2 : TL (up M 1 2 80) L := by
    refine ⟨l80, by rw [up_col _ _ _ (by decide)]; exact e1, by rw [up_row _ _ _ (by decide)]; exact e2, fun k hk => ?_⟩
    rw [txN_eq (M := M) (M' := up M 1 2 80) (fun k => by rw [up_row _ _ _ (by decide)]), up_row _ _ _ (by decide), up_row _ _ _ (by decide)]
    exact ht k hk
  have etx : txN (up M 1 2 80) = txN M := txN_eq (fun k => by rw [up_row _ _ _ (by decide)])
  cases er : plF (txN M) L L 0 with
  | some f =>
    have hf := plF_lt (txN M) L L 0 (by omega) f er
    have hne : ¬ nI f = -1 := nI_neq (by omega)
    show wp (if nI f = -1 then _ else _) _
    rw [if_neg hne]
    unfold f_X10_palace_14 f_X10_palace_40
    rw [wp_ml, if_neg hne, wp_s]
    have hge : ∀ i k, 174 ≤ i → up (up M 1 2 80) 1 1 0 i k = M i k := fun i k hi => by rw [up_row _ _ _ (by omega), up_row _ _ _ (by omega)]
    refine wp_mono (pal_ref (t := txN M) l80 ((hge 174 11 (by decide)).trans e2) (fun k hk => ⟨(ht k hk).1, (hge 183 k (by decide)).trans (ht k hk).2.2⟩)) (fun r' Mr y => ?_)
    rw [er] at y
    obtain ⟨y1, y2, y3⟩ := y
    refine ⟨y1, z_same hI hN hR (fun i k hn => ?_)⟩
    unfold scr0 at hn
    by_cases g1 : i = 1 ∧ k = 1
    · obtain ⟨rfl, rfl⟩ := g1
      rw [y3 1 1 (by omega), up_self]
      unfold Mz
      rw [up_row _ _ _ (by decide), up_self]
    · by_cases g2 : i = 174 ∧ k = 11
      · obtain ⟨rfl, rfl⟩ := g2
        rw [y2]
        unfold Mz
        rw [up_self]
      · rw [Mz_at M i k g1 g2, y3 i k (by omega), up_at, if_neg g1, up_at, if_neg (by omega)]
  | none =>
    obtain ⟨hL0, hj⟩ := plF_none (txN M) L L 0 (by omega) er
    have l6 : L ≤ 6 := by have := (hj (L - 1) (by omega) (by omega)).1; omega
    show wp (if (-1 : Int32) = -1 then _ else _) _
    rw [if_pos rfl, wp_bd]
    have hC' : COk (L, 0, (fun r => decide (txN M r = 99)), C.2.2.2.1, C.2.2.2.2.1, C.2.2.2.2.2) := ⟨l6, Nat.zero_le _, a1.2.2.1, fun z => absurd (show (0 : Nat) < 0 from z) (by decide), a1.2.2.2.2⟩
    refine wp_mono (build_cls (L, 0, (fun r => decide (txN M r = 99)), C.2.2.2.1, C.2.2.2.2.1, C.2.2.2.2.2) hT2 (up_self _ _ _ _) l6) (fun _ M3 q => ?_)
    obtain ⟨q1, q2, q3, q4, q5, q6, q7, q8, q9, q10⟩ := q
    unfold f_X10_palace_14 f_X10_palace_40
    rw [wp_ml, if_pos rfl, wp_s, up_row _ _ _ (by decide), q2]
    have ec : ∀ i k, ¬ plX i k → up M3 1 1 0 i k = M i k := fun i k hn => by
      rw [up_at, if_neg (fun z => hn (by unfold plX; omega)), q10 i k hn, up_at, if_neg (fun z => hn (by unfold plX; omega))]
    have hge : ∀ i k, 174 ≤ i → up M3 1 1 0 i k = M i k := fun i k hi => ec i k (by unfold plX; omega)
    refine wp_mono (pal_ref (t := txN M) l80 ((hge 174 11 (by decide)).trans e2) (fun k hk => ⟨(ht k hk).1, (hge 183 k (by decide)).trans (ht k hk).2.2⟩)) (fun r' Mr y => ?_)
    rw [er] at y
    obtain ⟨y1, y2, y3, y4, y5, y6, y7, y8, y9, y10, y11⟩ := y
    have lo : ∀ i k, i < 174 → Mr i k = up M3 1 1 0 i k := fun i k hi => y11 i k (by omega)
    have e0 : ∀ i k, ¬ plX i k → i ≠ 175 → i ≠ 176 → i ≠ 202 → ¬ (i = 174 ∧ (k = 1 ∨ k = 3 ∨ k = 11 ∨ k = 14 ∨ k = 28 ∨ k = 52)) → Mr i k = M i k := fun i k h1 h2 h3 h4 h5 => (y11 i k (by omega)).trans (ec i k h1)
    rw [etx] at q4
    refine ⟨y1, ⟨(L, 0, (fun r => decide (txN M r = 99)), C.2.2.2.1, C.2.2.2.2.1, C.2.2.2.2.2), sm0, hC', ok_sm0 _, by show 0 ≤ _; omega, hN, ⟨?_, ?_, fun r hr => ?_, fun g hg => absurd hg (Nat.not_lt_zero g)⟩, ⟨y2, y3, fun r hr => ?_, fun g hg => absurd hg (Nat.not_lt_zero g)⟩, IsC.eq (fun i k h1 h2 _ => by rw [lo i k (by omega), up_row _ _ _ (by omega)]) q1, ⟨fun g hg => absurd hg (Nat.not_lt_zero g), fun g hg => absurd hg (Nat.not_lt_zero g), fun g hg => absurd hg (Nat.not_lt_zero g), fun g hg => absurd hg (Nat.not_lt_zero g), y4⟩, ⟨0, by decide, ?_, y7, fun k hk => ?_⟩, fun g hg => absurd hg (Nat.not_lt_zero g), ⟨R, t, b1.fr (e0 23 1 (by unfold plX; omega) (by omega) (by omega) (by omega) (by omega)) (fun k => e0 24 k (by unfold plX; omega) (by omega) (by omega) (by omega) (by omega)), b2.fr (e0 174 22 (by unfold plX; omega) (by omega) (by omega) (by omega) (by omega)) (fun k => e0 186 k (by unfold plX; omega) (by omega) (by omega) (by omega) (by omega)), fun g hg => absurd hg (Nat.not_lt_zero g)⟩, ⟨lt, 0, τ, ⟨p1.1, by decide, ?_, ?_, fun j hj => absurd hj (Nat.not_lt_zero j)⟩, ⟨y6, fun j hj => absurd hj (Nat.not_lt_zero j)⟩, fun j hj => absurd hj (Nat.not_lt_zero j)⟩, ⟨cm, by omega, (e0 174 57 (by unfold plX; omega) (by omega) (by omega) (by omega) (by omega)).trans k2, fun i hi => ?_⟩, ⟨0, fun _ => 0, fun _ => 0, fun _ => 0, by decide, ?_, y5, fun i hi => absurd hi (Nat.not_lt_zero i)⟩⟩, ?_⟩
    · rw [lo 3 0 (by decide), up_row _ _ _ (by decide)]; exact q2
    · rw [lo 3 2 (by decide), up_row _ _ _ (by decide)]; exact q3
    · rw [lo 3 1 (by decide), up_row _ _ _ (by decide), q4 r hr]
      simp
    · rw [y8 r hr]
      unfold b2i
      simp
    · rw [lo 1 1 (by decide), up_self]; rfl
    · refine ⟨txN M k, (ht k hk).1, ?_, ?_⟩
      · rw [e0 2 k (by unfold plX; omega) (by omega) (by omega) (by omega) (by omega)]; exact (ht k hk).2.1
      · rw [e0 183 k (by unfold plX; omega) (by omega) (by omega) (by omega) (by omega)]; exact (ht k hk).2.2
    · rw [e0 46 1 (by unfold plX; omega) (by omega) (by omega) (by omega) (by omega)]; exact p1.2.2.1
    · rw [lo 46 2 (by decide), up_row _ _ _ (by decide), q5]; rfl
    · obtain ⟨a, z, d1, d2, d3, d4, d5⟩ := k3 i hi
      refine ⟨0, z, Nat.zero_le _, d2, ?_, ?_, Or.inr ⟨by show (0 : Nat) ≠ 0 + 1; decide, Or.inl ?_⟩⟩
      · have : i = 0 ∨ i = 1 := by omega
        rcases this with rfl | rfl
        · rw [lo 109 0 (by decide), up_row _ _ _ (by decide), q7]; decide
        · rw [lo 109 1 (by decide), up_row _ _ _ (by decide), q8]; decide
      · rw [e0 203 i (by unfold plX; omega) (by omega) (by omega) (by omega) (by omega)]; exact d4
      · have : i = 0 ∨ i = 1 := by omega
        rcases this with rfl | rfl
        · exact y9
        · exact y10
    · rw [lo 120 3 (by decide), up_row _ _ _ (by decide), q6]; rfl
    · exact row_ne hR (fun i k q => e0 i k (by unfold plX; omega) (by omega) (by omega) (by omega) (by omega))
