/-! the reference reads a day -/
def dX : Nat → Nat → Prop := fun i q => (i = 174 ∧ (q = 18 ∨ q = 19)) ∨ i = 190
theorem RC.dx {M M' : Mem} {t : Nat → Nat} {L : Nat} (h : Fr dX M M') (hc : RC M t L) : RC M' t L := by
  obtain ⟨h1, h2, ⟨n0, tp, a, b, e1, e2, e3⟩, h3⟩ := hc
  have e : ∀ q, q ≠ 18 → q ≠ 19 → M' 174 q = M 174 q := fun q a b => h 174 q (by unfold dX; omega)
  have e15 := e 15 (by decide) (by decide)
  refine ⟨by rw [e15]; exact h1, by rw [e15]; exact h2, ⟨n0, tp, a, b, (e 16 (by decide) (by decide)).trans e1, (e 17 (by decide) (by decide)).trans e2, e3⟩, fun p hp => ?_⟩
  rw [e15, h _ p (by unfold dX; rcases dR_c (M 174 15) with z | z <;> omega)]
  exact h3 p hp
def AcL (M : Mem) (l : List Act) : Prop := ∀ j a, l[j]? = some a → AcR M (3 * j) a
theorem AcR.eq {M M' : Mem} {k : Nat} {a : Act} (h : AcR M k a) (e : ∀ q, k ≤ q → q < k + 3 → M' 190 q = M 190 q) : AcR M' k a := ⟨(e k (by omega) (by omega)).trans h.1, (e (k + 1) (by omega) (by omega)).trans h.2.1, fun z => (e (k + 2) (by omega) (by omega)).trans (h.2.2 z)⟩
theorem d89_f {M : Mem} {f : Nat} {x : Int32} (hf : f ≤ 100) (h9 : M 174 19 = nI f) : f_X11_day_89 x M = some (-1 - nI f, M) := by
  unfold f_X11_day_89
  rw [fine_f (by rw [h9]; exact nI_neq (by omega)), bd_e, if_pos rfl, h9]
theorem d70_f {M : Mem} {f : Nat} {x : Int32} (hf : f ≤ 100) (h9 : M 174 19 = nI f) : f_X11_day_70 x M = some (-1 - nI f, M) := by
  unfold f_X11_day_70
  rw [fault_f (by rw [h9]; exact nI_neq (by omega)), bd_e, d89_f hf h9]
  split <;> rfl
theorem d39_0 (fu : Nat) (x : Int32) (M : Mem) : f_X11_day_39 (fu + 1) x 0 M = f_X11_day_70 x M := by
  conv => lhs; unfold f_X11_day_39
  rw [if_pos rfl]
theorem dr39 {t : Nat → Nat} {L K : Nat} {Q : Int32 → Mem → Prop} {M0 : Mem} (hK : K = min L 60) (l80 : L ≤ 80) (res : Sum Nat (List Act)) (hbad : ∀ f M', res = .inl f → f ≤ 100 → Fr dX M0 M' → Q (-1 - nI f) M') (hgood : ∀ l M', res = .inr l → Fr dX M0 M' → AcL M' l → M' 174 19 = -1 → wp (f_X11_day_89 (nI l.length) M') Q) (h16 : M0 174 16 = nI L) (hL0 : RC M0 t K) : ∀ (m i fu p : Nat) (pre : List Act) (M : Mem), i + m = 81 → pre.length = i → 3 * i ≤ p → m < fu → p ≤ K → Fr dX M0 M → M 174 18 = nI p → M 174 19 = -1 → AcL M pre → (match acs (lkp t K) L m p with
    | .inl f => (.inl f : Sum Nat (List Act))
    | .inr l => .inr (pre ++ l)) = res → wp (f_X11_day_39 fu (nI i) 1 M) Q
  | 0, i, fu, p, pre, M, hi, _, h3, _, hp, _, _, _, _, _ => by omega
  | m + 1, i, fu + 1, p, pre, M, hi, hl, h3, hf, hp, hF, h8, h9, hA, hr => by
    obtain ⟨fu, rfl⟩ : ∃ f', fu = f' + 1 := ⟨fu - 1, by omega⟩
    have hL := RC.dx hF hL0
    unfold f_X11_day_39
    unfold acs at hr
    rw [if_neg (by decide), fine_t h9, bd_e, if_neg (by decide), show (3 : Int32) * nI i = nI (3 * i) from pk_mul 3 i, wp_bd]
    refine wp_mono (readAct_ref (k := 3 * i) (by omega) hp hL h8 h9) (fun _ M1 q => ?_)
    obtain ⟨q1, q2⟩ := q
    have hF1 : Fr dX M0 M1 := hF.tr (q1.mn (fun a b z => by unfold raS at z; unfold dX; omega))
    rw [wp_vl, nI_1]
    cases ea : ac (lkp t K) p with
    | inl f =>
      rw [ea] at q2 hr
      have hfb := ac_l ea
      have q2 : M1 174 19 = nI f := q2
      rw [pas_n (by rw [q2]; exact nI_neq (by omega)), bd_e, d39_0, d70_f (by omega) q2, wp_s]
      exact hbad f _ hr.symm (by omega) hF1
    | inr w =>
      rw [ea] at q2 hr
      obtain ⟨u1, u2, u4⟩ := q2
      have u3 := ac_L ea
      obtain ⟨r1, r2, r3, r4⟩ := ac_r ea
      have hL1 := RC.dx hF1 hL0
      rw [show f_X11_passes 59 M1 = _ from pass_ok (c := 59) hL1 u2 u1 (by omega) (by decide)]
      have e16 : M1 174 16 = nI L := (hF1 174 16 (by unfold dX; omega)).trans h16
      have keep : AcL M1 (pre ++ [w.1]) := by
        intro j a hj
        by_cases e : j < pre.length
        · rw [List.getElem?_append_left e] at hj
          exact (hA j a hj).eq (fun q h1 h2 => q1 190 q (by unfold raS; omega))
        · rw [List.getElem?_append_right (by omega)] at hj
          by_cases e2 : j - pre.length = 0
          · rw [e2] at hj
            have : w.1 = a := by simpa using hj
            rw [← this, show j = i by omega]
            exact u4
          · obtain ⟨d, hd⟩ : ∃ d, j - pre.length = d + 1 := ⟨j - pre.length - 1, by omega⟩
            rw [hd] at hj
            simp at hj
      have hr' : (match (if L ≤ w.2 then Sum.inr [w.1] else if lkp t K w.2 = 59 then (match acs (lkp t K) L m (w.2 + 1) with
        | .inl f => .inl f
        | .inr l => .inr (w.1 :: l)) else .inl w.2 : Sum Nat (List Act)) with
        | .inl f => (.inl f : Sum Nat (List Act))
        | .inr l => .inr (pre ++ l)) = res := hr
      by_cases hE : L ≤ w.2
      · rw [if_pos hE] at hr'
        have hno : ¬ lkp t K w.2 = 59 := by
          unfold lkp
          rw [if_neg (by omega)]
          decide
        rw [if_neg hno, bd_e, d39_0]
        unfold f_X11_day_70
        rw [u2, e16, if_neg (nI_nlt hE (by omega))]
        have := hgood (pre ++ [w.1]) M1 hr'.symm hF1 keep u1
        rw [List.length_append, hl] at this
        exact this
      · rw [if_neg hE] at hr'
        by_cases h59 : lkp t K w.2 = 59
        · have hlt : w.2 < K := lkp_lo (t := t) (fun e => by omega)
          rw [if_pos h59] at hr'
          rw [if_pos h59, bd_e]
          refine dr39 hK l80 res hbad hgood h16 hL0 m (i + 1) (fu + 1) (w.2 + 1) (pre ++ [w.1]) _ (by omega) (by rw [List.length_append, hl]; rfl) (by omega) (by omega) (by omega) (hF1.up (Or.inl ⟨rfl, by omega⟩)) (up_self _ _ _ _) (by rw [up_col _ _ _ (by decide)]; exact u1) (fun j a hj => (keep j a hj).eq (fun q _ _ => by rw [up_row _ _ _ (by decide)])) ?_
          cases e2 : acs (lkp t K) L m (w.2 + 1) with
          | inl f => rw [e2] at hr'; exact hr'
          | inr l =>
            rw [e2] at hr'
            rw [← hr']
            show Sum.inr (pre ++ [w.1] ++ l) = Sum.inr (pre ++ w.1 :: l)
            rw [List.append_assoc]
            rfl
        · rw [if_neg h59] at hr'
          rw [if_neg h59, bd_e, d39_0]
          unfold f_X11_day_70
          rw [u2, e16, if_pos (nI_lt (by omega) (by omega)), fault_t u1, bd_e, d89_f (f := w.2) (by omega) (up_self _ _ _ _), wp_s]
          exact hbad w.2 _ hr'.symm (by omega) (hF1.up (Or.inl ⟨rfl, by omega⟩))
