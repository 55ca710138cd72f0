/-! a day told: the class looks the whole text over; the reference reads it -/
section DayD
variable {M : Mem} {t : Nat → Nat} {L mo : Nat}
theorem nf_neg {f : Nat} (h : f ≤ 1000) : (-1 - nI f : Int32) < 0 := by
  have e : (-1 - nI f : Int32) = -1 - nI f := rfl
  rw [Int32.lt_iff_toInt_lt, Int32.toInt_sub_of_not_ssubOverflow, nI_toInt (by omega)]
  · have : (-1 : Int32).toInt = -1 := by decide
    have : (0 : Int32).toInt = 0 := by decide
    omega
  · sorry
theorem nf_back (f : Nat) : (-1 - (-1 - nI f) : Int32) = nI f := by
  sorry
theorem fod25 (h : TX M t L mo) : ∀ (m i fu p : Nat), i + m = 81 → m < fu → p ≤ min L mo → f_X10_faultOfDay_25 fu (nI p) (nI i) M = some (match acs (lkp t (min L mo)) L m p with
    | .inl f => nI f
    | .inr _ => -1, M)
  | 0, i, fu + 1, p, hi, _, hp => by
    unfold f_X10_faultOfDay_25 acs
    rw [if_pos (show 80 < nI i from nI_lt (a := 80) (by omega) (by omega))]
  | m + 1, i, fu + 1, p, hi, hf, hp => by
    have l80 := h.1
    unfold f_X10_faultOfDay_25 acs
    rw [if_neg (show ¬ 80 < nI i from nI_nlt (a := 80) (by omega) (by decide)), behind_cls h (by omega), bd_e]
    cases e : ac (lkp t (min L mo)) p with
    | inl f =>
      have := ac_l e
      show (if (-1 - nI f : Int32) < 0 then some (-1 - (-1 - nI f), M) else _) = some (nI f, M)
      rw [if_pos (nf_neg (by omega)), nf_back]
    | inr q =>
      have hq := ac_L e
      obtain ⟨x, ex, hx, hx1⟩ := tx_at h (p := q.2) (by omega)
      show (if nI q.2 < 0 then _ else bd (f_X8_at (nI q.2) M) _) = some ((match (if L ≤ q.2 then Sum.inr [q.1] else if lkp t (min L mo) q.2 = 59 then (match acs (lkp t (min L mo)) L m (q.2 + 1) with
        | .inl f => .inl f
        | .inr l => .inr (q.1 :: l)) else .inl q.2 : Sum Nat (List Act)) with
        | .inl f => nI f
        | .inr _ => -1), M)
      rw [if_neg (nI_pos (by omega)), ex, bd_e]
      by_cases hE : L ≤ q.2
      · rw [if_pos (hx1.mpr hE)]
        simp only [if_pos hE]
      · rw [if_neg (fun z => hE (hx1.mp z)), ex, bd_e]
        simp only [if_neg hE]
        by_cases h59 : lkp t (min L mo) q.2 = 59
        · have hlt : q.2 < min L mo := lkp_lo (t := t) (fun e => by omega)
          rw [if_pos (show x = 59 from (hx.eq (c := 59) (by decide)).mpr h59)]
          simp only [if_pos h59, vl]
          rw [nI_1, nI_1, fod25 h m (i + 1) fu (q.2 + 1) (by omega) (by omega) (by omega)]
          cases acs (lkp t (min L mo)) L m (q.2 + 1) <;> rfl
        · rw [if_neg (show ¬ x = 59 from fun z => h59 ((hx.eq (c := 59) (by decide)).mp z))]
          simp only [if_neg h59]
theorem told18 (h : TX M t L mo) : ∀ (m p a fu : Nat), p + m = L → m < fu → f_X10_actsTold_18 fu (nI a) (nI p) M = some (nI (a + cnt (lkp t (min L mo)) m p), M)
  | 0, p, a, fu + 1, hp, _ => by
    have l80 := h.1
    unfold f_X10_actsTold_18 cnt
    rw [h.2.2.1, if_neg (nI_nlt (by omega) (by omega))]
    rfl
  | m + 1, p, a, fu + 1, hp, hf => by
    have l80 := h.1
    obtain ⟨x, ex, hx, -⟩ := tx_at h (p := p) (by omega)
    unfold f_X10_actsTold_18 f_X10_actsTold_45 cnt
    rw [h.2.2.1, if_pos (nI_lt (by omega) (by omega)), ex, bd_e]
    by_cases h59 : lkp t (min L mo) p = 59
    · rw [if_pos (show x = 59 from (hx.eq (c := 59) (by decide)).mpr h59), if_pos h59]
      simp only [vl]
      rw [nI_1, nI_1, told18 h m (p + 1) (a + 1) fu (by omega) (by omega), Nat.add_assoc]
    · rw [if_neg (show ¬ x = 59 from fun z => h59 ((hx.eq (c := 59) (by decide)).mp z)), if_neg h59]
      simp only [vl]
      rw [nI_1, told18 h m (p + 1) a fu (by omega) (by omega), Nat.zero_add]
end DayD
