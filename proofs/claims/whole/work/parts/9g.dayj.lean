/-! the reference's day, from its beginning -/
theorem dyP_ok {t : Nat → Nat} {L : Nat} {l : List Act} (h : dyP t L = .inr l) : l.length ≤ 20 ∧ (∀ a, a ∈ l → AOk a) ∧ (L = 0 → l = []) ∧ (L ≠ 0 → acs (lkp t (min L 60)) L 81 0 = .inr l ∧ cnt (lkp t (min L 60)) L 0 + 1 = l.length) := by
  unfold dyP at h
  by_cases h0 : L = 0
  · rw [if_pos h0] at h
    cases h
    exact ⟨by decide, fun a ha => absurd ha (List.not_mem_nil), fun _ => rfl, fun z => absurd h0 z⟩
  · rw [if_neg h0] at h
    obtain ⟨s1, s2, s3, s4, s5, s6⟩ := acs_r (t := t) (L := L) (K := min L 60) (by omega) 81 0 l h
    exact ⟨by omega, s6, fun z => absurd z h0, fun _ => ⟨h, s5⟩⟩
theorem day_ref {C : Cf} {M : Mem} {t : Nat → Nat} {L : Nat} {σ : Sm} {u : Nat} {τ : Nat → Sm} (hC : COk C) (hO : Ok C σ) (hB : σ.2.2.2.2 < 2 ^ 28) (hu : u ≤ 12) (hRH : RH C σ u τ M) (l80 : L ≤ 80) (e11 : M 174 11 = nI L) (ht : ∀ k, k < 80 → t k < 256 ∧ M 183 k = sB (t k)) : wp (f_X11_day M) (fun r M' => M' 174 11 = 0 ∧ match dyP t L with
    | .inl f => r = -1 - nI f ∧ Fr dZ M M'
    | .inr l => r = nI (dos C l σ).1 ∧ IsR C (M' 175) (dos C l σ).2 ∧ RwR M' [if (dos C l σ).1 < l.length then 1 else 0, nI (tc (dos C l σ).2 - tc σ)] ∧ (if 0 < (dos C l σ).1 then PsR C M' (pu1 u) (psh σ τ) else PsR C M' u τ) ∧ Fr dW M M') := by
  have c2 := hC.2.1
  unfold f_X11_day f_X11_day_0 f_X11_begin f_X11_begin_0
  rw [wp_ml, up_col _ _ _ (by decide), e11, wp_bd, wp_ml, wp_ml, wp_ml, wp_ml, wp_ml, wp_s, wp_ml]
  have hF0 : Fr dZ M (up (up (up (up (up (up (up M 174 14 0) 174 15 (bc 183)) 174 16 (nI L)) 174 17 60) 174 18 0) 174 19 (-1)) 174 11 0) := ((((((Fr.rf.up (by unfold dZ; omega)).up (by unfold dZ; omega)).up (by unfold dZ; omega)).up (by unfold dZ; omega)).up (by unfold dZ; omega)).up (by unfold dZ; omega)).up (by unfold dZ; omega)
  have f11 : up (up (up (up (up (up (up M 174 14 0) 174 15 (bc 183)) 174 16 (nI L)) 174 17 60) 174 18 0) 174 19 (-1)) 174 11 0 174 11 = 0 := up_self _ _ _ _
  have f15 : up (up (up (up (up (up (up M 174 14 0) 174 15 (bc 183)) 174 16 (nI L)) 174 17 60) 174 18 0) 174 19 (-1)) 174 11 0 174 15 = bc 183 := by simp [up_at]
  have f16 : up (up (up (up (up (up (up M 174 14 0) 174 15 (bc 183)) 174 16 (nI L)) 174 17 60) 174 18 0) 174 19 (-1)) 174 11 0 174 16 = nI L := by simp [up_at]
  have f17 : up (up (up (up (up (up (up M 174 14 0) 174 15 (bc 183)) 174 16 (nI L)) 174 17 60) 174 18 0) 174 19 (-1)) 174 11 0 174 17 = nI 60 := by simp [up_at]; rfl
  have f18 : up (up (up (up (up (up (up M 174 14 0) 174 15 (bc 183)) 174 16 (nI L)) 174 17 60) 174 18 0) 174 19 (-1)) 174 11 0 174 18 = nI 0 := by simp [up_at]; rfl
  have f19 : up (up (up (up (up (up (up M 174 14 0) 174 15 (bc 183)) 174 16 (nI L)) 174 17 60) 174 18 0) 174 19 (-1)) 174 11 0 174 19 = -1 := by simp [up_at]
  generalize hM5 : up (up (up (up (up (up (up M 174 14 0) 174 15 (bc 183)) 174 16 (nI L)) 174 17 60) 174 18 0) 174 19 (-1)) 174 11 0 = M5 at *
  have zw : ∀ {A B : Mem}, Fr dZ A B → Fr dW A B := fun h => h.mn (fun i k z => by unfold dZ at z; unfold dW; omega)
  rw [f16]
  unfold f_X11_day_38
  by_cases h0 : L = 0
  · subst h0
    rw [if_neg (by decide), show FU = 1999 + 1 from rfl, d39_0]
    unfold f_X11_day_70
    rw [f18, f16, if_neg (by decide)]
    refine wp_mono (day89 (l := []) hC hO hB hu (hRH.fz c2 hF0) f19 (fun j a hj => by simp at hj) (fun a ha => absurd ha (List.not_mem_nil)) (by decide)) (fun r M' q => ?_)
    obtain ⟨q1, q2, q3, q4, q5, q6⟩ := q
    exact ⟨q5.trans f11, q1, q2, q3, q4, (zw hF0).tr q6⟩
  rw [if_pos (nIp (by omega) (by omega))]
  have hRC : RC M5 t (min L 60) := by
    refine ⟨by rw [f15]; exact bc_0 183, by rw [f15, bc_v (Or.inl rfl)]; show min L 60 ≤ 80; omega, ⟨L, 60, l80, by decide, f16, f17, rfl⟩, fun p hp => ⟨(ht p (by omega)).1, ?_⟩⟩
    rw [f15, bc_v (Or.inl rfl), hF0 183 p (by unfold dZ; omega)]
    exact (ht p (by omega)).2
  have edy : dyP t L = acs (lkp t (min L 60)) L 81 0 := by unfold dyP; rw [if_neg h0]
  have xz : ∀ {A B : Mem}, Fr dX A B → Fr dZ A B := fun h => h.mn (fun i k z => by unfold dX at z; unfold dZ; omega)
  refine dr39 (t := t) (L := L) (K := min L 60) (M0 := M5) rfl l80 (acs (lkp t (min L 60)) L 81 0) (fun f M' hr hf hF => ?_) (fun l M' hr hF hA h9 => ?_) f16 hRC 81 0 FU 0 [] M5 (by omega) rfl (by omega) (by decide) (Nat.zero_le _) Fr.rf f18 f19 (fun j a hj => by simp at hj) ?_
  · rw [edy, hr]
    exact ⟨(hF 174 11 (by unfold dX; omega)).trans f11, rfl, hF0.tr (xz hF)⟩
  · have hd := dyP_ok (edy.trans hr)
    rw [edy, hr]
    refine wp_mono (day89 hC hO hB hu ((hRH.fz c2 hF0).fz c2 (xz hF)) h9 hA hd.2.1 hd.1) (fun r M'' q => ?_)
    obtain ⟨q1, q2, q3, q4, q5, q6⟩ := q
    exact ⟨q5.trans ((hF 174 11 (by unfold dX; omega)).trans f11), q1, q2, q3, q4, (zw (hF0.tr (xz hF))).tr q6⟩
  · cases acs (lkp t (min L 60)) L 81 0 <;> rfl
