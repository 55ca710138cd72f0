/-! heard, count, where -/
theorem in_t {x : Int32} {a b : Int32} (M : Mem) (h1 : ¬ x < a) (h2 : ¬ b < x) : f_X11_in x a b M = some (1, M) := by rw [in_spec, b2i_t ⟨h1, h2⟩]
theorem in_f1 {x : Int32} {a b : Int32} (M : Mem) (h1 : x < a) : f_X11_in x a b M = some (0, M) := by rw [in_spec, b2i_f (fun q => q.1 h1)]
theorem in_f2 {x : Int32} {a b : Int32} (M : Mem) (h1 : b < x) : f_X11_in x a b M = some (0, M) := by rw [in_spec, b2i_f (fun q => q.2 h1)]
theorem pI_of {x : Int32} {n : Nat} (hn : n < 2 ^ 30) (h1 : ¬ x < -1) (h2 : ¬ nI n < x) : ∃ k, k ≤ n + 1 ∧ x = pI k := by
  by_cases h0 : x < 0
  · refine ⟨0, by omega, ?_⟩
    rw [pI_0, ← Int32.toInt_inj]
    rw [Int32.lt_iff_toInt_lt] at h0 h1
    have e1 : (-1 : Int32).toInt = -1 := by decide
    have e2 : (0 : Int32).toInt = 0 := by decide
    omega
  · obtain ⟨j, hj, rfl⟩ := nI_of h0
    rw [nI_ltI (by omega) hj] at h2
    exact ⟨j + 1, by omega, (pI_s j).symm⟩
theorem st_heard {N : Nat} {M : Mem} (hN : N < 512) (h : Cpl N M) (x y z : Int32) : Both N (f_X10_heard x y z) (f_X11_heard x y z) M := by
  obtain ⟨⟨C, σ, hI⟩, hR⟩ := h
  obtain ⟨a1, a2, a3, a4, a5, a6, a7, a8, a9, a10, a11, a12, a13, ⟨n, hp, hm, ht, b1, b2, b3, b4⟩⟩ := id hI
  have c1 := a1.1
  have c2 := a1.2.1
  have hI' := hI.C14 0
  have same : ∀ r : Int32, r = -1 → wp (f_X11_heard x y z M) (fun r' M2 => r' = -1 ∧ Cpl (N + 1) M2) → wp (f_X11_heard x y z M) (fun r' M2 => r' = r ∧ Cpl (N + 1) M2) := fun r e q => by rw [e]; exact q
  unfold Both f_X10_heard f_X10_heard_0 f_X10_heard_33
  have done : Cpl (N + 1) (up M 174 14 0) := q_same hI hN hR fr14
  rcases gcase C.1 c1 x with ⟨r, hr, rfl⟩ | ⟨hx, _⟩
  · rw [hasR_t a1 a5 hr, bd_e, if_neg (by decide)]
    have rr := isR_t a1 hI'.2.2.2.2.2.1 hr
    by_cases h1 : y < 1
    · rw [if_pos h1, wp_s]
      unfold f_X11_heard f_X11_heard_0 f_X11_heard_42
      rw [wp_ml, rr, bd_e, if_neg (by decide), in_f1 _ h1, bd_e, if_pos rfl, wp_s]
      exact ⟨rfl, done⟩
    rw [if_neg h1]
    by_cases h2 : 300 < y
    · rw [if_pos h2, wp_s]
      unfold f_X11_heard f_X11_heard_0 f_X11_heard_42
      rw [wp_ml, rr, bd_e, if_neg (by decide), in_f2 _ h2, bd_e, if_pos rfl, wp_s]
      exact ⟨rfl, done⟩
    rw [if_neg h2]
    by_cases h3 : z < -1
    · rw [if_pos h3, wp_s]
      unfold f_X11_heard f_X11_heard_0 f_X11_heard_42
      rw [wp_ml, rr, bd_e, if_neg (by decide), in_t _ h1 h2, bd_e, if_neg (by decide), in_f1 _ h3, bd_e, if_pos rfl, wp_s]
      exact ⟨rfl, done⟩
    rw [if_neg h3]
    by_cases h4 : 4 < z
    · rw [if_pos h4, wp_s]
      unfold f_X11_heard f_X11_heard_0 f_X11_heard_42
      rw [wp_ml, rr, bd_e, if_neg (by decide), in_t _ h1 h2, bd_e, if_neg (by decide), in_f2 _ h4, bd_e, if_pos rfl, wp_s]
      exact ⟨rfl, done⟩
    rw [if_neg h4]
    unfold f_X0_add f_X0_add_0 f_X0_add_16
    rw [b2, if_neg (nI_pos (by omega))]
    obtain ⟨mi, m1, m2, rfl⟩ := rng (a := 1) (b := 300) (by decide) (by decide) h1 h2
    obtain ⟨to, t1, rfl⟩ := pI_of (n := 4) (by decide) h3 h4
    have e52 : ∀ M1 : Mem, M1 174 52 = nI n → up M1 174 14 0 174 52 = nI n := fun M1 q => by rw [up_col _ _ _ (by decide)]; exact q
    by_cases h12 : n < 12
    · rw [if_pos (show nI n < 12 from nI_lt (b := 12) h12 (by decide)), gd_t (nI_inb h12 (by decide)), nI_clamp (by omega), wp_bd, wp_ml]
      simp only [up_row _ _ _ (show (120 : Nat) ≠ 121 by decide), up_row _ _ _ (show (120 : Nat) ≠ 122 by decide), up_row _ _ _ (show (120 : Nat) ≠ 123 by decide), b2]
      rw [gd_t (nI_inb h12 (by decide)), wp_ml]
      simp only [up_row _ _ _ (show (120 : Nat) ≠ 121 by decide), up_row _ _ _ (show (120 : Nat) ≠ 122 by decide), up_row _ _ _ (show (120 : Nat) ≠ 123 by decide), b2]
      rw [gd_t (nI_inb h12 (by decide)), wp_ml]
      simp only [up_row _ _ _ (show (120 : Nat) ≠ 121 by decide), up_row _ _ _ (show (120 : Nat) ≠ 122 by decide), up_row _ _ _ (show (120 : Nat) ≠ 123 by decide), b2]
      rw [wp_ml, wp_s, wp_s, nI_clamp (by omega), up_self, nI_1]
      have hge : ∀ i k, 174 ≤ i → up (up (up (up M 121 n (nI r)) 122 n (nI mi)) 123 n (pI to)) 120 3 (nI (n + 1)) i k = M i k := fun i k hi => by rw [up_row _ _ _ (by omega), up_row _ _ _ (by omega), up_row _ _ _ (by omega), up_row _ _ _ (by omega)]
      have e0 : ∀ i k, ¬ (i = 174 ∧ k = 14) → ¬ (120 ≤ i ∧ i ≤ 123) → up (up (up (up (up M 121 n (nI r)) 122 n (nI mi)) 123 n (pI to)) 120 3 (nI (n + 1))) 174 14 0 i k = M i k := fun i k h1 h2 => by rw [up_at, if_neg h1, up_row _ _ _ (by omega), up_row _ _ _ (by omega), up_row _ _ _ (by omega), up_row _ _ _ (by omega)]
      have mR : CfR (up (up (up (up (up M 121 n (nI r)) 122 n (nI mi)) 123 n (pI to)) 120 3 (nI (n + 1))) 174 14 0) C := a6.eq2 (fun i k q => e0 i k (by unfold cHo at q; omega) (by unfold cHo at q; omega))
      unfold f_X11_heard f_X11_heard_0 f_X11_heard_42
      rw [wp_ml, isR_t a1 mR hr, bd_e, if_neg (by decide), in_t _ h1 h2, bd_e, if_neg (by decide), in_t _ h3 h4, bd_e, if_neg (by decide), e52 _ ((hge 174 52 (by decide)).trans b3), if_neg (show ¬ nI n = 12 from fun q => by have := (nI_eq (b := 12) (by omega) (by decide)).mp q; omega), show (3 : Int32) * nI n = nI (3 * n) from pk_mul 3 n, gd_t (nI_inb (show 3 * n < 36 by omega) (by decide)), wp_ml, up_row _ _ _ (by decide), e52 _ ((hge 174 52 (by decide)).trans b3), show (3 : Int32) * nI n = nI (3 * n) from pk_mul 3 n, nI_1, gd_t (nI_inb (show 3 * n + 1 < 36 by omega) (by decide)), wp_ml, up_row _ _ _ (by decide), up_row _ _ _ (by decide), e52 _ ((hge 174 52 (by decide)).trans b3), show (3 : Int32) * nI n = nI (3 * n) from pk_mul 3 n, show nI (3 * n) + 2 = nI (3 * n + 2) from nI_add (3 * n) 2, gd_t (nI_inb (show 3 * n + 2 < 36 by omega) (by decide)), wp_ml, wp_ml, wp_s, up_self, up_row _ _ _ (by decide), up_row _ _ _ (by decide), up_row _ _ _ (by decide), e52 _ ((hge 174 52 (by decide)).trans b3), nI_1, nI_clamp (by omega), nI_clamp (by omega), nI_clamp (by omega)]
      have e : ∀ i k, ¬ (i = 174 ∧ (k = 14 ∨ k = 52)) → ¬ (120 ≤ i ∧ i ≤ 123) → i ≠ 200 → up (up (up (up (up (up (up (up (up M 121 n (nI r)) 122 n (nI mi)) 123 n (pI to)) 120 3 (nI (n + 1))) 174 14 0) 200 (3 * n) (nI r)) 200 (3 * n + 1) (nI mi)) 200 (3 * n + 2) (pI to)) 174 52 (nI (n + 1)) i k = M i k := fun i k q1 q2 q3 => by
        rw [up_at, if_neg (by omega), up_row _ _ _ q3, up_row _ _ _ q3, up_row _ _ _ q3]
        exact e0 i k (by omega) q2
      refine ⟨rfl, ⟨C, σ, a1, a2, by omega, hN, a5.eq2 c2 (fun i k q => e i k (by unfold cHo at q; omega) (by unfold cHo at q; omega) (by unfold cHo at q; omega)), a6.eq2 (fun i k q => e i k (by unfold cHo at q; omega) (by unfold cHo at q; omega) (by unfold cHo at q; omega)), IsC.eq (fun i k e1 e2 _ => e i k (by omega) (by omega) (by omega)) a7, IsR.eq c2 (fun k _ => e 175 k (by omega) (by omega) (by omega)) a8, a9.eq (fun i k q => e i k (by unfold cTx at q; omega) (by unfold cTx at q; omega) (by unfold cTx at q; omega)), a10.eq c2 (fun i k q => e i k (by unfold cDt at q; omega) (by unfold cDt at q; omega) (by unfold cDt at q; omega)), a11.eq c2 (fun i k q => e i k (by unfold cRl at q; omega) (by unfold cRl at q; omega) (by unfold cRl at q; omega)), a12.eq c2 (Nat.le_succ N) (fun i k q => e i k (by unfold cPs at q; omega) (by unfold cPs at q; omega) (by unfold cPs at q; omega)), a13.eq c2 (Nat.le_succ N) (fun i k q => e i k (by unfold cKp at q; omega) (by unfold cKp at q; omega) (by unfold cKp at q; omega)), ⟨n + 1, fs hp n r, fs hm n mi, fs ht n to, by omega, ?_, ?_, fun i hi => ?_⟩⟩, row_ne hR (fun i k q => e i k (by omega) (by omega) (by omega))⟩
      · simp [up_at]
      · simp [up_at]
      · by_cases ei : i = n
        · subst ei
          rw [fs_s, fs_s, fs_s]
          refine ⟨hr, m1, m2, t1, ?_, ?_, ?_, ?_, ?_, ?_⟩ <;> simp [up_at]
        · obtain ⟨d1, d2, d3, d4, d5, d6, d7, d8, d9, d10⟩ := b4 i (by omega)
          rw [fs_n _ _ ei, fs_n _ _ ei, fs_n _ _ ei]
          have n0 : ¬ 3 * i = 3 * n := by omega
          have n1 : ¬ 3 * i = 3 * n + 1 := by omega
          have n2 : ¬ 3 * i = 3 * n + 2 := by omega
          have n3 : ¬ 3 * i + 1 = 3 * n := by omega
          have n4 : ¬ i = n := ei
          have n5 : ¬ 3 * i + 1 = 3 * n + 2 := by omega
          have n6 : ¬ 3 * i + 2 = 3 * n := by omega
          have n7 : ¬ 3 * i + 2 = 3 * n + 1 := by omega
          refine ⟨d1, d2, d3, d4, ?_, ?_, ?_, ?_, ?_, ?_⟩
          · simp [up_at, n4]; exact d5
          · rw [up_row _ _ _ (by decide), up_col _ _ _ (by omega), up_col _ _ _ (by omega), up_col _ _ _ (by omega), e0 200 _ (by omega) (by omega)]; exact d6
          · simp [up_at, n4]; exact d7
          · rw [up_row _ _ _ (by decide), up_col _ _ _ (by omega), up_col _ _ _ (by omega), up_col _ _ _ (by omega), e0 200 _ (by omega) (by omega)]; exact d8
          · simp [up_at, n4]; exact d9
          · rw [up_row _ _ _ (by decide), up_col _ _ _ (by omega), up_col _ _ _ (by omega), up_col _ _ _ (by omega), e0 200 _ (by omega) (by omega)]; exact d10
    · have n12 : n = 12 := by omega
      subst n12
      rw [if_neg (by decide), bd_e, wp_s]
      unfold f_X11_heard f_X11_heard_0 f_X11_heard_42
      rw [wp_ml, rr, bd_e, if_neg (by decide), in_t _ h1 h2, bd_e, if_neg (by decide), in_t _ h3 h4, bd_e, if_neg (by decide), e52 _ b3, if_pos (by decide), wp_s]
      exact ⟨rfl, done⟩
  · rw [hasR_f a5 hx, bd_e, if_pos rfl, wp_s]
    unfold f_X11_heard f_X11_heard_0 f_X11_heard_42
    rw [wp_ml, isR_f a1 hI'.2.2.2.2.2.1 hx, bd_e, if_pos rfl, wp_s]
    exact ⟨rfl, done⟩
