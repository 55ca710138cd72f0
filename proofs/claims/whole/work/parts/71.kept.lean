/-! undo, keep, again, heard -/
theorem st_undo {N : Nat} {M : Mem} (hN : N < 512) (h : Cpl N M) : Both N f_X10_undo f_X11_undo M := by
  obtain ⟨⟨C, σ, hI⟩, hR⟩ := h
  obtain ⟨a1, a2, a3, a4, a5, a6, a7, a8, a9, a10, a11, ⟨lt, u, τ, p1, p2, p3⟩, a13, a14⟩ := id hI
  have c2 := a1.2.1
  have u12 := p1.2.1
  unfold Both f_X10_undo f_X10_undo_0 f_X11_undo f_X11_undo_0
  rw [p1.2.2.2.1]
  cases u with
  | zero =>
    rw [if_pos (by decide), wp_s, wp_ml, up_col _ _ _ (by decide), p2.1, if_pos (by decide), wp_s]
    exact ⟨rfl, q_same hI hN hR fr14⟩
  | succ u =>
    rw [if_neg (nI_ne0 (by omega) (by omega)), wp_bd]
    refine wp_mono (takeBack_spec p1) (fun _ Mc q => ?_)
    obtain ⟨q1, ⟨lt', q2⟩, q3⟩ := q
    have e28 : up Mc 174 14 0 174 28 = nI (u + 1) := by rw [up_col _ _ _ (by decide), q3 174 28 (by unfold tbS; omega)]; exact p2.1
    rw [wp_s, q2.2.2.2.1, wp_ml, e28, if_neg (nI_ne0 (by omega) (by omega)), wp_ml, nI_sub1 (by omega), show u + 1 - 1 = u by omega]
    have t0 := p2.2 0 (by omega)
    refine wp_for (α := Unit) (fun m _ x M => f_X11_undo_26 m x M) 25 (fun k _ M1 => (∀ j, j < k → M1 175 j = M 188 (25 * u + j)) ∧ M1 174 28 = nI u ∧ (∀ i j, i < 174 → M1 i j = Mc i j) ∧ (∀ i j, 174 ≤ i → i ≠ 175 → ¬ (i = 174 ∧ (j = 14 ∨ j = 28)) → M1 i j = M i j)) _ (fun m k _ M1 hk hJ kk => ?_) (fun m _ M1 hJ => ?_) 25 0 FU () _ (by omega) (by decide) ⟨fun j hj => absurd hj (Nat.not_lt_zero j), up_self _ _ _ _, fun i j hi => by rw [up_row _ _ _ (by omega), up_row _ _ _ (by omega)], fun i j hi h1 h2 => by rw [up_at, if_neg (by omega), up_at, if_neg (by omega)]; exact q3 i j (by unfold tbS; omega)⟩
    · obtain ⟨j1, j2, j3, j4⟩ := hJ
      show wp (f_X11_undo_26 (m + 1) (nI k) M1) _
      unfold f_X11_undo_26
      rw [if_pos (show nI k < 25 from nI_lt (b := 25) hk (by decide)), j2, show (25 : Int32) * nI u = nI (25 * u) from pk_mul 25 u, nI_add, gd_t (nI_inb (show 25 * u + k < 300 by omega) (by decide)), wp_vl, gd_t (nI_inb (show k < 25 by omega) (by decide)), nI_clamp (by omega), nI_clamp (by omega), wp_ml, wp_vl, nI_1]
      refine kk () _ ⟨fun j hj => ?_, by rw [up_row _ _ _ (by decide)]; exact j2, fun i j hi => by rw [up_row _ _ _ (by omega)]; exact j3 i j hi, fun i j hi h1 h2 => by rw [up_row _ _ _ h1]; exact j4 i j hi h1 h2⟩
      by_cases e : j = k
      · subst e; rw [up_self]; exact j4 188 _ (by decide) (by decide) (by omega)
      · rw [up_col _ _ _ e]; exact j1 j (by omega)
    · obtain ⟨j1, j2, j3, j4⟩ := hJ
      show wp (f_X11_undo_26 (m + 1) (nI 25) M1) _
      unfold f_X11_undo_26
      rw [if_neg (by decide), wp_s]
      have hF : Fr stp M M1 := by
        intro i k hn
        by_cases hi : i < 174
        · rw [j3 i k hi]
          exact q3 i k (fun z => hn (by
            rcases z with z | z
            · exact Or.inr (Or.inl z)
            · exact Or.inr (Or.inr (Or.inr (Or.inl (by omega))))))
        · refine j4 i k (by omega) (fun z => hn (Or.inr (Or.inr (Or.inl z)))) (fun z => hn ?_)
          rcases z.2 with z2 | z2
          · exact Or.inl (Or.inl (s0_74 (by omega)))
          · exact Or.inr (Or.inr (Or.inr (Or.inr (Or.inr ⟨z.1, z2⟩))))
      refine ⟨j2, ⟨C, τ 0, hI.st (Nat.le_succ N) hN hF (p3 0 (by omega)).1 (by have := (p3 0 (by omega)).2; omega) (IsC.eq (fun i k e1 e2 _ => j3 i k (by omega)) q1) (IsR.eq c2 (fun k hk => j1 k hk) t0) ⟨lt', u, fun j => τ (j + 1), q2.eq (fun i k e1 e2 => j3 i k (by omega)), ⟨j2, fun j hj => ?_⟩, fun j hj => ⟨(p3 (j + 1) (by omega)).1, by show (τ (j + 1)).2.2.2.2 ≤ _; have := (p3 (j + 1) (by omega)).2; omega⟩⟩⟩, ?_⟩
      · refine IsR.eq c2 (fun k hk => ?_) (p2.2 (j + 1) (by omega))
        rw [j4 188 _ (by decide) (by decide) (by omega)]
        congr 1
        omega
      · exact hR.fr ((j3 0 16 (by decide)).trans (q3 0 16 (by unfold tbS; omega))) (funext fun k => (j3 173 k (by decide)).trans (q3 173 k (by unfold tbS; omega))) (j4 174 13 (by decide) (by decide) (by omega)) (funext fun k => j4 184 k (by decide) (by decide) (by omega))
theorem row_ne {M M' : Mem} (hR : RowE M) (e : ∀ i k, (i = 0 ∧ k = 16) ∨ i = 173 ∨ (i = 174 ∧ k = 13) ∨ i = 184 → M' i k = M i k) : RowE M' := hR.fr (e 0 16 (by omega)) (funext fun k => e 173 k (by omega)) (e 174 13 (by omega)) (funext fun k => e 184 k (by omega))
theorem st_keep {N : Nat} {M : Mem} (hN : N < 512) (h : Cpl N M) (x : Int32) : Both N (f_X10_keep x) (f_X11_keep x) M := by
  obtain ⟨⟨C, σ, hI⟩, hR⟩ := h
  obtain ⟨a1, a2, a3, a4, a5, a6, a7, a8, a9, a10, a11, a12, ⟨cm, b1, b2, b3⟩, a14⟩ := id hI
  have c2 := a1.2.1
  have no : ¬ (¬ x < 0 ∧ ¬ 1 < x) → wp (f_X11_keep x M) (fun r' M2 => r' = 0 ∧ Cpl (N + 1) M2) := by
    intro hx
    unfold f_X11_keep f_X11_keep_0
    rw [wp_ml, in_spec, bd_e, b2i_f hx, if_pos rfl, wp_s]
    exact ⟨rfl, q_same hI hN hR fr14⟩
  unfold Both f_X10_keep f_X10_keep_0 f_X10_keep_9
  by_cases h1 : x < 0
  · rw [if_pos h1, wp_s]; exact no (fun q => q.1 h1)
  rw [if_neg h1]
  by_cases h2 : x < 2
  · obtain ⟨i, hi, rfl⟩ := nI_of h1
    have hi2 : i < 2 := (nI_ltI (b := 2) hi (by decide)).mp h2
    have h3 : ¬ (1 : Int32) < nI i := nI_nlt (a := 1) (by omega) (by decide)
    rw [if_pos h2, gd_t (nI_inb hi2 (by decide)), nI_clamp (by omega), wp_bd]
    refine wp_mono (copy_spec (s := 110 + 5 * i) (by omega) a7) (fun _ Mc q => ?_)
    obtain ⟨q1, q2⟩ := q
    rw [gd_t (nI_inc hi2 (by decide)), wp_ml, wp_s, show Mc 3 2 = nI C.2.1 from (q2 3 2 (by unfold stS; omega)).trans a5.2.1]
    unfold f_X11_keep f_X11_keep_0
    rw [wp_ml, in_spec, bd_e, b2i_t ⟨h1, h3⟩, if_neg (by decide), gd_t (nI_inb hi2 (by decide)), nI_clamp (by omega), wp_ml, gd_t (nI_inc hi2 (by decide)), wp_ml, show (25 : Int32) * nI i = nI (25 * i) from pk_mul 25 i, wp_bd]
    refine wp_mono (lay_spec (k0 := 25 * i) (by decide) rfl (by show 25 * i + 25 ≤ 50; omega) (by decide)) (fun _ Mr z => ?_)
    obtain ⟨z1, z2, z3⟩ := z
    rw [wp_s]
    have e57 : up (up (up Mc 109 i (nI C.2.1)) 174 14 0) 202 i (vp_nar .boolean 1) 174 57 = nI cm := by
      rw [up_row _ _ _ (by decide), up_col _ _ _ (by decide), up_row _ _ _ (by decide), q2 174 57 (by unfold stS; omega)]; exact b2
    rw [e57] at z1 z2 z3
    have e : ∀ j k, ¬ (109 ≤ j ∧ j ≤ 119) → ¬ (201 ≤ j ∧ j ≤ 203) → ¬ (j = 174 ∧ k = 14) → Mr j k = M j k := by
      intro j k n1 n2 n3
      rw [z3 j (by omega), up_row _ _ _ (by omega), up_row _ _ _ (by omega), up_at, if_neg n3, up_row _ _ _ (by omega)]
      exact q2 j k (by unfold stS; omega)
    refine ⟨rfl, ⟨C, σ, a1, a2, by omega, hN, a5.eq2 c2 (fun i k q => e i k (by unfold cHo at q; omega) (by unfold cHo at q; omega) (by unfold cHo at q; omega)), a6.eq2 (fun i k q => e i k (by unfold cHo at q; omega) (by unfold cHo at q; omega) (by unfold cHo at q; omega)), IsC.eq (fun i k e1 e2 _ => e i k (by omega) (by omega) (by omega)) a7, IsR.eq c2 (fun k _ => e 175 k (by omega) (by omega) (by omega)) a8, a9.eq (fun i k q => e i k (by unfold cTx at q; omega) (by unfold cTx at q; omega) (by unfold cTx at q; omega)), a10.eq c2 (fun i k q => e i k (by unfold cDt at q; omega) (by unfold cDt at q; omega) (by unfold cDt at q; omega)), a11.eq c2 (fun i k q => e i k (by unfold cRl at q; omega) (by unfold cRl at q; omega) (by unfold cRl at q; omega)), a12.eq c2 (Nat.le_succ N) (fun i k q => e i k (by unfold cPs at q; omega) (by unfold cPs at q; omega) (by unfold cPs at q; omega)), ⟨cm, by omega, (e 174 57 (by omega) (by omega) (by omega)).trans b2, fun j hj => ?_⟩, a14.eq (fun i k q => e i k (by unfold cHd at q; omega) (by unfold cHd at q; omega) (by unfold cHd at q; omega))⟩, row_ne hR (fun i k q => e i k (by omega) (by omega) (by omega))⟩
    by_cases eq : j = i
    · subst eq
      refine ⟨C.2.1 + 1, cm, Nat.le_refl _, Nat.le_refl _, ?_, ?_, Or.inl ⟨rfl, ?_, rfl, σ, a2, by omega, ?_, ?_⟩⟩
      · rw [z3 109 (by decide), up_row _ _ _ (by decide), up_row _ _ _ (by decide), up_row _ _ _ (by decide), up_self, pI_s]
      · rw [z3 203 (by decide), up_self]
      · rw [z3 202 (by decide), up_row _ _ _ (by decide), up_self]; decide
      · refine IsC.eq (fun i k e1 e2 _ => ?_) q1
        rw [z3 i (by omega), up_row _ _ _ (by omega), up_row _ _ _ (by omega), up_row _ _ _ (by omega), up_row _ _ _ (by omega)]
      · refine IsR.eq c2 (fun k hk => ?_) a8
        rw [z1 k hk, up_row _ _ _ (by decide), up_row _ _ _ (by decide), up_row _ _ _ (by decide), up_row _ _ _ (by decide)]
        exact q2 175 k (by unfold stS; omega)
    · obtain ⟨a, z, d1, d2, d3, d4, d5⟩ := b3 j hj
      have f202 : Mr 202 j = M 202 j := by
        rw [z3 202 (by decide), up_row _ _ _ (by decide), up_col _ _ _ eq, up_row _ _ _ (by decide), up_row _ _ _ (by decide)]
        exact q2 202 j (by unfold stS; omega)
      refine ⟨a, z, d1, d2, ?_, ?_, ?_⟩
      · rw [z3 109 (by decide), up_row _ _ _ (by decide), up_row _ _ _ (by decide), up_row _ _ _ (by decide), up_col _ _ _ eq, q2 109 j (by unfold stS; omega)]
        exact d3
      · rw [z3 203 (by decide), up_col _ _ _ eq, up_row _ _ _ (by decide), up_row _ _ _ (by decide), up_row _ _ _ (by decide), q2 203 j (by unfold stS; omega)]
        exact d4
      · rw [f202]
        rcases d5 with ⟨f1, f2, f3, κ, f4, f5, f6, f7⟩ | f
        · refine Or.inl ⟨f1, f2, f3, κ, f4, by omega, IsC.eq (fun n k e1 e2 _ => ?_) f6, IsR.eq c2 (fun k hk => ?_) f7⟩
          · rw [z3 n (by omega), up_row _ _ _ (by omega), up_row _ _ _ (by omega), up_row _ _ _ (by omega), up_row _ _ _ (by omega)]
            exact q2 n k (by unfold stS; omega)
          · rw [z2 _ (by omega), up_row _ _ _ (by decide), up_row _ _ _ (by decide), up_row _ _ _ (by decide), up_row _ _ _ (by decide)]
            exact q2 201 _ (by unfold stS; omega)
        · exact Or.inr f
  · rw [if_neg h2, wp_s]
    refine no (fun q => h2 ?_)
    obtain ⟨n, -, n2, rfl⟩ := rng (a := 0) (b := 1) (by decide) (by decide) q.1 q.2
    exact nI_lt (b := 2) (by omega) (by decide)
theorem st_again {N : Nat} {M : Mem} (hN : N < 512) (h : Cpl N M) (x : Int32) : Both N (f_X10_again x) (f_X11_again x) M := by
  obtain ⟨⟨C, σ, hI⟩, hR⟩ := h
  obtain ⟨a1, a2, a3, a4, a5, a6, a7, a8, a9, a10, a11, ⟨lt, u, τ, p1, p2, p3⟩, ⟨cm, b1, b2, b3⟩, a14⟩ := id hI
  have c2 := a1.2.1
  have no : ¬ (¬ x < 0 ∧ ¬ 1 < x) → wp (f_X11_again x M) (fun r' M2 => r' = 0 ∧ Cpl (N + 1) M2) := by
    intro hx
    unfold f_X11_again f_X11_again_0 f_X11_again_36
    rw [wp_ml, in_spec, bd_e, b2i_f hx, if_pos rfl, wp_s]
    exact ⟨rfl, q_same hI hN hR fr14⟩
  unfold Both f_X10_again f_X10_again_0 f_X10_again_25
  by_cases h1 : x < 0
  · rw [if_pos h1, wp_s]; exact no (fun q => q.1 h1)
  rw [if_neg h1]
  by_cases h2 : x < 2
  · obtain ⟨i, hi, rfl⟩ := nI_of h1
    have hi2 : i < 2 := (nI_ltI (b := 2) hi (by decide)).mp h2
    have h3 : ¬ (1 : Int32) < nI i := nI_nlt (a := 1) (by omega) (by decide)
    obtain ⟨a, z, d1, d2, d3, d4, d5⟩ := b3 i hi2
    rw [if_pos h2, gd_t (nI_inb hi2 (by decide)), nI_clamp (by omega), d3, a5.2.1]
    have f57 : up M 174 14 0 174 57 = nI cm := by rw [up_col _ _ _ (by decide)]; exact b2
    rcases d5 with ⟨f1, f2, f3, κ, f4, f5, f6, f7⟩ | ⟨f1, f2⟩
    · rw [if_pos (by rw [f1, pI_s]), gd_t (nI_inc hi2 (by decide)), wp_bd]
      refine wp_mono (copy_spec (s := 26) (by omega) f6) (fun _ M7 q => ?_)
      obtain ⟨q1, q2⟩ := q
      unfold f_X6_clear f_X6_clear_0
      rw [wp_bd, wp_ml, wp_s, wp_s]
      have ge : ∀ i k, i ≠ 46 → 31 ≤ i → up M7 46 2 0 i k = M i k := fun i k hi h2 => by rw [up_row _ _ _ hi]; exact q2 i k (by unfold stS; omega)
      unfold f_X11_again f_X11_again_0
      rw [wp_ml, in_spec, bd_e, b2i_t ⟨h1, h3⟩, if_neg (by decide), gd_t (nI_inb hi2 (by decide)), nI_clamp (by omega), up_row _ _ _ (by decide), ge 202 i (by decide) (by decide), if_neg f2, gd_t (nI_inc hi2 (by decide)), up_row _ _ _ (by decide), ge 203 i (by decide) (by decide), d4, up_col _ _ _ (by decide), ge 174 57 (by decide) (by decide), b2, f3, if_pos rfl]
      refine wp_for (α := Unit) (fun m _ x M => f_X11_again_40 m (nI i) x M) 25 (fun k _ M1 => (∀ j, j < k → M1 175 j = M 201 (25 * i + j)) ∧ (∀ n j, n < 174 → M1 n j = up M7 46 2 0 n j) ∧ (∀ n j, 174 ≤ n → n ≠ 175 → ¬ (n = 174 ∧ j = 14) → M1 n j = M n j)) _ (fun m k _ M1 hk hJ kk => ?_) (fun m _ M1 hJ => ?_) 25 0 FU () _ (by omega) (by decide) ⟨fun j hj => absurd hj (Nat.not_lt_zero j), fun n j hn => by rw [up_row _ _ _ (by omega)], fun n j hn h1 h2 => by rw [up_at, if_neg h2]; exact ge n j (by omega) (by omega)⟩
      · obtain ⟨j1, j3, j4⟩ := hJ
        show wp (f_X11_again_40 (m + 1) (nI i) (nI k) M1) _
        unfold f_X11_again_40
        rw [if_pos (show nI k < 25 from nI_lt (b := 25) hk (by decide)), show (25 : Int32) * nI i = nI (25 * i) from pk_mul 25 i, nI_add, gd_t (nI_inb (show 25 * i + k < 50 by omega) (by decide)), gd_t (nI_inb (show k < 25 by omega) (by decide)), nI_clamp (by omega), nI_clamp (by omega), wp_ml, wp_vl, nI_1]
        refine kk () _ ⟨fun j hj => ?_, fun n j hn => by rw [up_row _ _ _ (by omega)]; exact j3 n j hn, fun n j hn h1 h2 => by rw [up_row _ _ _ h1]; exact j4 n j hn h1 h2⟩
        by_cases e : j = k
        · subst e; rw [up_self]; exact j4 201 _ (by decide) (by decide) (by omega)
        · rw [up_col _ _ _ e]; exact j1 j (by omega)
      · obtain ⟨j1, j3, j4⟩ := hJ
        show wp (f_X11_again_40 (m + 1) (nI i) (nI 25) M1) _
        unfold f_X11_again_40
        rw [if_neg (by decide), wp_ml, wp_s]
        have hF : Fr stp M (up M1 174 28 0) := by
          intro n k hn
          have hn1 : ¬ (n = 174 ∧ k = 28) := fun z => hn (Or.inr (Or.inr (Or.inr (Or.inr (Or.inr z)))))
          rw [up_at, if_neg hn1]
          by_cases hi : n < 174
          · have hn2 : ¬ n = 46 := fun z => hn (Or.inr (Or.inr (Or.inr (Or.inl (by omega)))))
            rw [j3 n k hi, up_row _ _ _ hn2]
            exact q2 n k (fun z => hn (Or.inr (Or.inl ⟨z.1, by have := z.2; omega⟩)))
          · exact j4 n k (by omega) (fun z => hn (Or.inr (Or.inr (Or.inl z)))) (fun z => hn (Or.inl (Or.inl (s0_74 (by omega)))))
        refine ⟨rfl, ⟨C, κ, hI.st (Nat.le_succ N) hN hF f4 (by omega) (IsC.eq (fun n k e1 e2 _ => ?_) q1) (IsR.eq c2 (fun k hk => by rw [up_row _ _ _ (by decide)]; exact j1 k hk) f7) ⟨lt, 0, τ, ⟨p1.1, by decide, ?_, ?_, fun j hj => absurd hj (Nat.not_lt_zero j)⟩, ⟨up_self _ _ _ _, fun j hj => absurd hj (Nat.not_lt_zero j)⟩, fun j hj => absurd hj (Nat.not_lt_zero j)⟩⟩, ?_⟩
        · rw [up_row _ _ _ (by omega), j3 n k (by omega), up_row _ _ _ (by omega)]
        · rw [up_row _ _ _ (by decide), j3 46 1 (by decide), up_col _ _ _ (by decide), q2 46 1 (by unfold stS; omega)]; exact p1.2.2.1
        · rw [up_row _ _ _ (by decide), j3 46 2 (by decide), up_self]; rfl
        · exact hR.fr (by rw [up_row _ _ _ (by decide), j3 0 16 (by decide), up_row _ _ _ (by decide)]; exact q2 0 16 (by unfold stS; omega)) (funext fun k => by rw [up_row _ _ _ (by decide), j3 173 k (by decide)]; exact ge 173 k (by decide) (by decide)) (by rw [up_col _ _ _ (by decide)]; exact j4 174 13 (by decide) (by decide) (by omega)) (funext fun k => by rw [up_row _ _ _ (by decide)]; exact j4 184 k (by decide) (by decide) (by omega))
    · rw [if_neg (fun q => f1 ((pI_nI (by omega) (by omega)).mp q)), wp_s]
      unfold f_X11_again f_X11_again_0 f_X11_again_36
      rw [wp_ml, in_spec, bd_e, b2i_t ⟨h1, h3⟩, if_neg (by decide), gd_t (nI_inb hi2 (by decide)), nI_clamp (by omega), up_row _ _ _ (by decide)]
      by_cases g1 : M 202 i = 0
      · rw [if_pos g1, wp_s]
        exact ⟨rfl, q_same hI hN hR fr14⟩
      · rw [if_neg g1, gd_t (nI_inc hi2 (by decide)), up_row _ _ _ (by decide), d4, f57, if_neg (fun q => ?_), wp_s]
        · exact ⟨rfl, q_same hI hN hR fr14⟩
        · rcases f2 with f2 | f2
          · exact g1 f2
          · exact f2 ((nI_eq (by omega) (by omega)).mp q)
  · rw [if_neg h2, wp_s]
    refine no (fun q => h2 ?_)
    obtain ⟨n, -, n2, rfl⟩ := rng (a := 0) (b := 1) (by decide) (by decide) q.1 q.2
    exact nI_lt (b := 2) (by omega) (by decide)
