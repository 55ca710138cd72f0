/-! a day's acts are done -/
def da (C : Cf) (σ : Sm) (a : Act) : Option Sm :=
  if a.1 = 109 then (if 90 < a.2.1 then none else some (mn C a.2.1 σ))
  else if a.1 = 111 then (if a.2.1 < C.2.1 ∧ bar C σ a.2.1 = 0 then some (off C σ a.2.1) else none)
  else if a.1 = 118 then (if a.2.1 < C.2.1 ∧ ins (σ.1 a.2.1) = true then some (ovr σ a.2.1 a.2.2) else none)
  else some (σ.1, σ.2.1, σ.2.2.1, σ.2.2.2.1, σ.2.2.2.2 + a.2.1)
theorem da_ok {C : Cf} {σ σ' : Sm} {a : Act} (hC : COk C) (hO : Ok C σ) (ha : AOk a) (h : da C σ a = some σ') : Ok C σ' ∧ σ'.2.2.2.2 ≤ σ.2.2.2.2 + 90 := by
  unfold da at h
  by_cases h1 : a.1 = 109
  · rw [if_pos h1] at h
    by_cases h2 : 90 < a.2.1
    · rw [if_pos h2] at h; cases h
    · rw [if_neg h2] at h
      cases h
      exact ⟨ok_mn hC _ hO, by rw [mn_now]; omega⟩
  rw [if_neg h1] at h
  by_cases h2 : a.1 = 111
  · rw [if_pos h2] at h
    by_cases h3 : a.2.1 < C.2.1 ∧ bar C σ a.2.1 = 0
    · rw [if_pos h3] at h
      cases h
      exact ⟨ok_off hC hO h3.1 h3.2, by rw [off_eq hC h3.1]; exact Nat.le_add_right _ _⟩
    · rw [if_neg h3] at h; cases h
  rw [if_neg h2] at h
  by_cases h4 : a.1 = 118
  · rw [if_pos h4] at h
    by_cases h3 : a.2.1 < C.2.1 ∧ ins (σ.1 a.2.1) = true
    · rw [if_pos h3] at h
      cases h
      exact ⟨ok_ovr hO h3.2, Nat.le_add_right _ _⟩
    · rw [if_neg h3] at h; cases h
  rw [if_neg h4] at h
  cases h
  obtain ⟨o1, o2, o3, o4, o5, o6, o7, o8, o9, o10⟩ := hO
  refine ⟨⟨o1, o2, o3, o4, o5, o6, fun g => ?_, o8, fun g => ?_, o10⟩, ?_⟩
  · show σ.2.2.2.1 g ≤ σ.2.2.2.2 + a.2.1
    have := o7 g
    omega
  · show σ.2.2.1 g ≤ σ.2.2.2.2 + a.2.1
    have := o9 g
    omega
  · show σ.2.2.2.2 + a.2.1 ≤ σ.2.2.2.2 + 90
    rcases ha with z | z | z | z <;> omega
theorem da_thr {C : Cf} {σ σ' : Sm} {a : Act} {g : Nat} (hC : COk C) (h : da C σ a = some σ') (hg : σ.1 g = 10) : σ'.1 g = 10 := by
  unfold da at h
  by_cases h1 : a.1 = 109
  · rw [if_pos h1] at h
    by_cases h2 : 90 < a.2.1
    · rw [if_pos h2] at h; cases h
    · rw [if_neg h2] at h
      cases h
      exact mn_thr _ hg
  rw [if_neg h1] at h
  by_cases h2 : a.1 = 111
  · rw [if_pos h2] at h
    by_cases h3 : a.2.1 < C.2.1 ∧ bar C σ a.2.1 = 0
    · rw [if_pos h3] at h
      cases h
      have hb := (bar_0 h3.2).1
      have hne : g ≠ a.2.1 := fun e => by rw [e, hb] at hg; exact absurd hg (by decide)
      rw [off_eq hC h3.1]
      show fs σ.1 a.2.1 _ g = 10
      rw [fs_n _ _ hne]; exact hg
    · rw [if_neg h3] at h; cases h
  rw [if_neg h2] at h
  by_cases h4 : a.1 = 118
  · rw [if_pos h4] at h
    by_cases h3 : a.2.1 < C.2.1 ∧ ins (σ.1 a.2.1) = true
    · rw [if_pos h3] at h
      cases h
      exact hg
    · rw [if_neg h3] at h; cases h
  rw [if_neg h4] at h
  cases h
  exact hg
theorem doAct_cls {C : Cf} {M : Mem} {σ : Sm} {t : Nat → Nat} {L p : Nat} {q : Act × Nat} (hC : COk C) (hM : CfC M C) (hS : IsC C M 26 σ) (hO : Ok C σ) (hB : σ.2.2.2.2 < 2 ^ 29) (hT : TX M t L 60) (hp : p ≤ 80) (he : ac (lkp t (min L 60)) p = .inr q) : wp (f_X10_doAct (nI p) M) (fun r M' => Fr (stS 26) M M' ∧ match da C σ q.1 with
    | none => r = 0 ∧ M' = M
    | some σ' => r = 1 ∧ IsC C M' 26 σ') := by
  have c2 := hC.2.1
  obtain ⟨x, ex, hx, -⟩ := tx_at hT (p := p) (by omega)
  have eqc : ∀ c : Nat, c < 256 → (x = nI c ↔ lkp t (min L 60) p = c) := fun c hc => hx.eq hc
  have t1 := tx_dig hT (p := p + 1) (by omega)
  have t2 := tx_dig hT (p := p + 2) (by omega)
  have l1 := tx_let hT (p := p + 1) (by omega)
  unfold f_X10_doAct f_X10_doAct_0 f_X10_doAct_145
  rw [show nI p + 1 = nI (p + 1) from nI_1 p, show nI p + 2 = nI (p + 2) from nI_add p 2, t1, bd_e, t2, bd_e, l1, bd_e, ex, bd_e]
  unfold ac at he
  by_cases h1 : lkp t (min L 60) p = 109
  · rw [if_pos (show x = 109 from (eqc 109 (by decide)).mpr h1)]
    rw [if_pos h1] at he
    have go : ∀ v : Nat, v ≤ 99 → q.1 = (109, v, 0) → wp (f_X10_doAct_91 (nI v) M) (fun r M' => Fr (stS 26) M M' ∧ match da C σ q.1 with
        | none => r = 0 ∧ M' = M
        | some σ' => r = 1 ∧ IsC C M' 26 σ') := by
      intro v hv hq
      unfold f_X10_doAct_91 da
      rw [hq]
      simp only [if_true]
      by_cases h90 : 90 < v
      · rw [if_pos (show 90 < nI v from nI_lt (a := 90) h90 (by omega)), wp_s]
        simp only [if_pos h90]
        exact ⟨Fr.rf, by first | rfl | trivial, by first | rfl | trivial⟩
      · rw [if_neg (show ¬ 90 < nI v from nI_nlt (a := 90) (by omega) (by decide)), wp_bd]
        simp only [if_neg h90]
        exact wp_mono (goOn_spec (by decide) hC hM hS hO (by omega) hB) (fun _ M' z => by rw [wp_s]; exact ⟨z.2, rfl, z.1⟩)
    by_cases d1 : isDg (lkp t (min L 60) (p + 1)) = true
    · have e1 := isDg_i.mp d1
      rw [if_pos d1] at he ⊢
      by_cases d2 : isDg (lkp t (min L 60) (p + 2)) = true
      · have e2 := isDg_i.mp d2
        rw [if_pos d2] at he ⊢
        rw [if_neg (nI_neq (by omega)), show nI (lkp t (min L 60) (p + 1) - 48) * 10 = nI ((lkp t (min L 60) (p + 1) - 48) * 10) from pk_mul _ 10, nI_add]
        cases he
        exact go _ (by omega) rfl
      · rw [if_neg d2] at he ⊢
        rw [if_pos rfl]
        cases he
        exact go _ (by omega) rfl
    · rw [if_neg d1] at he; cases he
  rw [if_neg (show ¬ x = 109 from fun z => h1 ((eqc 109 (by decide)).mp z))]
  rw [if_neg h1] at he
  by_cases h2 : lkp t (min L 60) p = 111
  · rw [if_pos (show x = 111 from (eqc 111 (by decide)).mpr h2)]
    rw [if_pos h2] at he
    by_cases d1 : 97 ≤ lkp t (min L 60) (p + 1) ∧ lkp t (min L 60) (p + 1) ≤ 102
    · rw [if_pos d1] at he ⊢
      cases he
      unfold da
      simp only [show ¬ (111 = 109) by decide, if_false, if_true]
      by_cases hg : lkp t (min L 60) (p + 1) - 97 < C.2.1
      · rw [hasG_t hC hM hg, bd_e, if_neg (by decide), barTo_spec hC hM hS hO.toM hg (by omega), bd_e]
        by_cases hb : bar C σ (lkp t (min L 60) (p + 1) - 97) = 0
        · rw [if_pos hb, wp_bd]
          simp only [hg, hb, and_self, if_true]
          exact wp_mono (setOff_spec (by decide) hC hM hS hO.toM hg (by have := (bar_0 hb).1; omega)) (fun _ M' z => by rw [wp_s]; exact ⟨z.2.2.2, rfl, z.1⟩)
        · rw [if_neg hb, wp_s]
          simp only [hb, and_false, if_false]
          exact ⟨Fr.rf, by first | rfl | trivial, by first | rfl | trivial⟩
      · rw [hasG_f hM (Or.inr (nI_nlt (by omega) (by omega))), bd_e, if_pos rfl, wp_s]
        simp only [hg, false_and, if_false]
        exact ⟨Fr.rf, by first | rfl | trivial, by first | rfl | trivial⟩
    · rw [if_neg d1] at he; cases he
  rw [if_neg (show ¬ x = 111 from fun z => h2 ((eqc 111 (by decide)).mp z))]
  rw [if_neg h2] at he
  by_cases h3 : lkp t (min L 60) p = 112
  · have hx3 := (eqc 112 (by decide)).mpr h3
    rw [hx3, if_neg (by decide), wp_ml, wp_s]
    rw [if_pos h3] at he
    by_cases d1 : 49 ≤ lkp t (min L 60) (p + 1) ∧ lkp t (min L 60) (p + 1) ≤ 57
    · rw [if_pos d1] at he
      rw [if_pos (isDg_i.mpr ⟨by omega, by omega⟩)]
      cases he
      obtain ⟨s1, s2, s3, s4, s5, s6⟩ := hS
      rw [s5, nI_add]
      unfold da
      simp only [show ¬ (112 = 109) by decide, show ¬ (112 = 111) by decide, show ¬ (112 = 118) by decide, if_false]
      refine ⟨Fr.rf.up (by unfold stS; omega), by first | rfl | trivial, fun g hg => ?_, fun g hg => ?_, fun g hg => ?_, fun g hg => ?_, up_self _ _ _ _, fun r hr => ?_⟩
      · rw [up_row _ _ _ (by decide)]; exact s1 g hg
      · rw [up_row _ _ _ (by decide)]; exact s2 g hg
      · rw [up_row _ _ _ (by decide)]; exact s3 g hg
      · rw [up_row _ _ _ (by decide)]; exact s4 g hg
      · rw [up_col _ _ _ (by decide)]; exact s6 r hr
    · rw [if_neg d1] at he; cases he
  rw [if_neg h3] at he
  by_cases h4 : lkp t (min L 60) p = 118
  · rw [if_pos (show x = 118 from (eqc 118 (by decide)).mpr h4)]
    rw [if_pos h4] at he
    by_cases d1 : 97 ≤ lkp t (min L 60) (p + 1) ∧ lkp t (min L 60) (p + 1) ≤ 102
    · rw [if_pos d1] at he ⊢
      by_cases d2 : 49 ≤ lkp t (min L 60) (p + 2) ∧ lkp t (min L 60) (p + 2) ≤ 57
      · rw [if_pos d2] at he
        rw [if_pos (isDg_i.mpr ⟨by omega, by omega⟩)]
        cases he
        unfold da
        simp only [show ¬ (118 = 109) by decide, show ¬ (118 = 111) by decide, if_false, if_true]
        by_cases hg : lkp t (min L 60) (p + 1) - 97 < C.2.1
        · rw [cIns hC hM hS hO.toM hg, bd_e]
          by_cases hi : ins (σ.1 (lkp t (min L 60) (p + 1) - 97)) = true
          · rw [b2i_t hi, if_neg (by decide), wp_bd]
            simp only [hg, hi, and_self, if_true]
            exact wp_mono (runOver_spec hS (by omega) (hO.2.2.2.2.1 _) (by omega)) (fun _ M' z => by rw [wp_s]; exact ⟨z.2, rfl, z.1⟩)
          · rw [b2i_f hi, if_pos rfl, wp_s]
            simp only [hi, Bool.false_eq_true, and_false, if_false]
            exact ⟨Fr.rf, by first | rfl | trivial, by first | rfl | trivial⟩
        · rw [cIns_f hM (Or.inr (nI_nlt (by omega) (by omega))), bd_e, if_pos rfl, wp_s]
          simp only [hg, false_and, if_false]
          exact ⟨Fr.rf, by first | rfl | trivial, by first | rfl | trivial⟩
      · rw [if_neg d2] at he; cases he
    · rw [if_neg d1] at he; cases he
  · rw [if_neg h4] at he; cases he
