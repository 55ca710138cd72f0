/-! minutes, undo, keep, again, heard, forget -/
def thB (σ τ : Sm) : Nat → Bool := fun g => τ.1 g == 10 && !(σ.1 g == 10)
theorem thB_step {C : Cf} {σ : Sm} (k g : Nat) : (thB σ (mn C k σ) g || gotB (mn C k σ) (mid C (mn C k σ)).1 g) = thB σ (mn C (k + 1) σ) g := by
  rw [mn_s]
  unfold thB gotB
  rw [minute_at]
  have h1 : (σ.1 g == 10) = true → ((mn C k σ).1 g == 10) = true := fun h => beq_iff_eq.mpr (mn_thr k (beq_iff_eq.mp h))
  have h2 : ((mn C k σ).1 g == 10) = true → ((mid C (mn C k σ)).1.1 g == 10) = true := fun h => beq_iff_eq.mpr (minute_thr (C := C) (beq_iff_eq.mp h))
  cases e1 : (σ.1 g == 10) <;> cases e2 : ((mn C k σ).1 g == 10) <;> cases e3 : ((mid C (mn C k σ)).1.1 g == 10) <;> simp_all
theorem rmin40 {C : Cf} {σ : Sm} {u n : Nat} {τ : Nat → Sm} {M : Mem} (hC : COk C) (hO : Ok C σ) (hn : n ≤ 90) (hT : StR M C) (hH : RH C σ u τ M) : wp (f_X11_minutes_40 FU (nI n) 0 0 0 M) (fun r M' => r = bcn (bI (thB σ (mn C n σ))) ∧ RwR M' [bI (thB σ (mn C n σ)), nI (sumB (allB C.2.1) (mn C n σ).2.2.1 - sumB (allB C.2.1) σ.2.2.1)] ∧ IsR C (M' 175) (mn C n σ) ∧ ∃ M1, Fr (mnS 175) M M1 ∧ Fr rrS M1 M') := by
  refine wp_for (α := Int32 × Int32) (fun m a x M => f_X11_minutes_40 m (nI n) a.1 a.2 x M) n (fun k a M1 => a.1 = bI (thB σ (mn C k σ)) ∧ a.2 = nI (sumB (allB C.2.1) (mn C k σ).2.2.1 - sumB (allB C.2.1) σ.2.2.1) ∧ StR M1 C ∧ CfR M1 C ∧ IsR C (M1 175) (mn C k σ) ∧ Fr (mnS 175) M M1) _ (fun m k a M1 hk hI kk => ?_) (fun m a M1 hI => ?_) n 0 FU (0, 0) M (by omega) (by show n < 2000; omega) ⟨?_, ?_, hT, hH.1.1, hH.2.1, Fr.rf⟩
  · obtain ⟨i1, i2, i3, i4, i5, i6⟩ := hI
    have hOk := ok_mn hC k hO
    show wp (f_X11_minutes_40 (m + 1) (nI n) a.1 a.2 (nI k) M1) _
    unfold f_X11_minutes_40
    rw [if_pos (nI_lt hk (by omega)), wp_bd]
    refine wp_mono (gm_spec (Or.inl rfl) hC i4 i3 i5 hOk) (fun _ M2 q => ?_)
    obtain ⟨q1, q2, q3, q4, q5⟩ := q
    rw [wp_vl, q3, bc_spec, bd_e, wp_vl, wp_vl, nI_1, i1, i2, q4, bcn_bI, nI_add]
    refine kk (_, _) M2 ⟨?_, ?_, StR.fr (Or.inl rfl) q5 i3, CfR.fr (Or.inl rfl) q5 i4, by rw [mn_s]; exact q1, i6.tr q5⟩
    · show _ ||| _ = _
      rw [bI_or]
      exact bI_ext (fun g _ => thB_step k g)
    · show nI _ = nI _
      congr 1
      have h1 := minute_sum hC hOk
      have h2 := mn_sum_le hC k hO
      rw [mn_s]
      omega
  · obtain ⟨i1, i2, i3, i4, i5, i6⟩ := hI
    show wp (f_X11_minutes_40 (m + 1) (nI n) a.1 a.2 (nI n) M1) _
    unfold f_X11_minutes_40
    rw [if_neg (nI_nlt (Nat.le_refl _) (by omega)), wp_ml, i1, i2]
    obtain ⟨e1, e2⟩ := rowr0 M1
    rw [wp_bd]
    refine wp_mono (tellr_spec _ e1 (by decide)) (fun _ M2 f => ?_)
    obtain ⟨f1, f2⟩ := f
    rw [wp_bd]
    refine wp_mono (tellr_spec _ f1 (by show 1 < 16; decide)) (fun _ M3 g => ?_)
    obtain ⟨g1, g2⟩ := g
    have hrr : Fr rrS M1 M3 := (e2.tr f2).tr g2
    rw [bc_spec, bd_e, wp_s]
    exact ⟨rfl, g1, IsR.eq hC.2.1 (fun k _ => hrr 175 k (by unfold rrS; omega)) i5, M1, i6, hrr⟩
  · show (0 : Int32) = bI (thB σ σ)
    rw [← bI_none]
    exact bI_ext (fun g _ => by unfold thB; cases (σ.1 g == 10) <;> rfl)
  · show (0 : Int32) = nI (sumB (allB C.2.1) σ.2.2.1 - sumB (allB C.2.1) σ.2.2.1)
    rw [Nat.sub_self]; rfl
theorem cmin27 {C : Cf} {σ : Sm} {n : Nat} {M : Mem} (hC : COk C) (hO : Ok C σ) (hn : n ≤ 90) (hB : σ.2.2.2.2 < 2 ^ 29) (hM : CfC M C) (hS : IsC C M 26 σ) : wp (f_X10_minutes_27 (nI n) M) (fun r M' => r = bcn (bI (thB σ (mn C n σ))) ∧ RwC M' [bI (thB σ (mn C n σ)), nI (sumB (allB C.2.1) (mn C n σ).2.2.1 - sumB (allB C.2.1) σ.2.2.1)] ∧ IsC C M' 26 (mn C n σ) ∧ ∃ M1, Fr (stS 26) M M1 ∧ Fr rcS M1 M') := by
  have c2 := hC.2.1
  have hO' := ok_mn hC n hO
  unfold f_X10_minutes_27
  rw [ci_thr hC hS hO.toM, bd_e, ci_every hC hM, bd_e, ci_waited hS, bd_e, wp_bd]
  refine wp_mono (goOn_spec (by decide) hC hM hS hO (by omega) hB) (fun _ M1 q => ?_)
  obtain ⟨q1, q2⟩ := q
  rw [ci_thr hC q1 hO'.toM, bd_e, wp_vl, wp_bd, bI_but]
  refine wp_mono (clearRow_spec M1) (fun _ M2 w => ?_)
  obtain ⟨w1, w2⟩ := w
  rw [wp_bd]
  refine wp_mono (tell_spec _ w1 (by decide)) (fun _ M3 v => ?_)
  obtain ⟨v1, v2⟩ := v
  have hF : Fr rcS M1 M3 := w2.tr v2
  have m3 : CfC M3 C := (CfC.fr (by decide) c2 q2 hM).eq2 c2 (fun i k z => hF i k (by unfold cHo at z; unfold rcS; omega))
  have i3 : IsC C M3 26 (mn C n σ) := IsC.eq (fun i k b1 b2 _ => hF i k (by unfold rcS; omega)) q1
  rw [ci_every hC m3, bd_e, ci_waited i3, bd_e, sumB_tb, sumB_tb, pk_sub (mn_sum_le hC n hO), wp_bd]
  refine wp_mono (tell_spec _ v1 (by show 1 < 12; decide)) (fun _ M4 s => ?_)
  obtain ⟨s1, s2⟩ := s
  rw [bc_spec, bd_e, wp_s]
  exact ⟨rfl, s1, IsC.eq (fun i k b1 b2 _ => s2 i k (by unfold rcS; omega)) i3, M1, q2, hF.tr s2⟩
theorem st_minutes {N : Nat} {M : Mem} (hN : N < 512) (h : Cpl N M) (x : Int32) : Both N (f_X10_minutes x) (f_X11_minutes x) M := by
  obtain ⟨⟨C, σ, hI⟩, hR⟩ := h
  obtain ⟨a1, a2, a3, a4, a5, a6, a7, a8, a9, a10, a11, ⟨lt, u, τ, p1, p2, p3⟩, a13, a14⟩ := id hI
  have c2 := a1.2.1
  have no : ¬ (¬ x < 0 ∧ ¬ 90 < x) → wp (f_X11_minutes x M) (fun r' M2 => r' = -1 ∧ Cpl (N + 1) M2) := by
    intro hx
    unfold f_X11_minutes f_X11_minutes_0
    rw [wp_ml, in_spec, bd_e, b2i_f hx, if_pos rfl, wp_s]
    exact ⟨rfl, q_same hI hN hR fr14⟩
  unfold Both f_X10_minutes f_X10_minutes_0 f_X10_minutes_10
  by_cases h1 : x < 0
  · rw [if_pos h1, wp_s]; exact no (fun q => q.1 h1)
  rw [if_neg h1]
  by_cases h2 : 90 < x
  · rw [if_pos h2, wp_s]; exact no (fun q => q.2 h2)
  rw [if_neg h2]
  obtain ⟨n, -, n90, rfl⟩ := rng (a := 0) (b := 90) (by decide) (by decide) h1 h2
  have hO' := ok_mn a1 n a2
  by_cases hz : n = 0
  · subst hz
    rw [if_neg (by decide)]
    refine wp_mono (cmin27 a1 a2 (by decide) (by omega) a5 a7) (fun r Mc q => ?_)
    obtain ⟨q1, q2, q3, M1, q4, q5⟩ := q
    subst q1
    have ge : ∀ i k, 174 ≤ i → Mc i k = M i k := fun i k hi => (q5 i k (by unfold rcS; omega)).trans (q4 i k (by unfold stS; omega))
    have r0 := RH.ge c2 (hI.rh p2) ge
    unfold f_X11_minutes f_X11_minutes_0 f_X11_minutes_33
    rw [wp_ml, in_spec, bd_e, b2i_t (by decide), if_neg (by decide), wp_bd]
    refine wp_mono (r0.ly a1) (fun _ N5 w => ?_)
    obtain ⟨y1, y2, y3⟩ := w
    rw [if_neg (by decide)]
    refine wp_mono (rmin40 a1 a2 (by decide) y1 y2) (fun r Mr z => ?_)
    obtain ⟨z1, z2, z3, N1, z4, z5⟩ := z
    have lo : ∀ i k, i < 174 → Mr i k = Mc i k := fun i k hi => by rw [rr_lo z5 hi, z4 i k (by unfold mnS; omega), ly_lo y3 hi, up_row _ _ _ (by omega)]
    have hF : Fr stp M Mr := ((((((st_stp q4).tr (s_stp (rc_scr q5)))).tr (s0_stp fr14)).tr (s0_stp (ly_s0 y3))).tr (mn_stp z4)).tr (s_stp (rr_scr z5))
    refine ⟨z1, ⟨C, σ, hI.st (Nat.le_succ N) hN hF a2 (by omega) (IsC.eq (fun i k _ _ _ => lo i k (by omega)) q3) z3 ?_⟩, rowE (by show 2 ≤ 12; decide) (q2.fr (lo 0 16 (by decide)) (funext fun k => lo 173 k (by decide))) z2⟩
    refine ⟨lt, u, τ, p1.eq (fun i k b1 b2 => ?_), p2.eq c2 ?_ (fun k => ?_), fun j hj => ⟨(p3 j hj).1, by have := (p3 j hj).2; omega⟩⟩
    · rw [lo i k (by omega), q5 i k (by unfold rcS; omega), q4 i k (by unfold stS; omega)]
    · rw [z5 174 28 (by unfold rrS; omega), z4 174 28 (by unfold mnS; omega), y3 174 28 (by unfold lyS; omega), up_col _ _ _ (by decide)]; exact ge 174 28 (by decide)
    · rw [z5 188 k (by unfold rrS; omega), z4 188 k (by unfold mnS; omega), y3 188 k (by unfold lyS; omega), up_row _ _ _ (by decide)]; exact ge 188 k (by decide)
  · rw [if_pos (nIp (by omega) (by omega)), wp_bd]
    refine wp_mono (add_spec (s1 := 26) (by decide) a7 p1) (fun _ M4 q => ?_)
    obtain ⟨⟨lt', b1⟩, b2⟩ := q
    have i26 : IsC C M4 26 σ := IsC.eq (fun i k e1 e2 _ => b2 i k (by unfold psS; omega)) a7
    have m4 : CfC M4 C := a5.eq2 c2 (fun i k z => b2 i k (by unfold cHo at z; unfold psS; omega))
    refine wp_mono (cmin27 a1 a2 n90 (by omega) m4 i26) (fun r Mc q => ?_)
    obtain ⟨q1, q2, q3, M1, q4, q5⟩ := q
    subst q1
    have ge : ∀ i k, 174 ≤ i → Mc i k = M i k := fun i k hi => (q5 i k (by unfold rcS; omega)).trans ((q4 i k (by unfold stS; omega)).trans (b2 i k (by unfold psS; omega)))
    have r0 := RH.ge c2 (hI.rh p2) ge
    unfold f_X11_minutes f_X11_minutes_0 f_X11_minutes_33
    rw [wp_ml, in_spec, bd_e, b2i_t ⟨h1, h2⟩, if_neg (by decide), wp_bd]
    refine wp_mono (r0.ly a1) (fun _ N5 w => ?_)
    obtain ⟨y1, y2, y3⟩ := w
    rw [if_pos (nIp (by omega) (by omega)), wp_bd]
    refine wp_mono (y2.rem a1 p1.2.1 y1) (fun _ N6 v => ?_)
    obtain ⟨x1, x2, x3⟩ := v
    refine wp_mono (rmin40 a1 a2 n90 x1 x2) (fun r Mr z => ?_)
    obtain ⟨z1, z2, z3, N1, z4, z5⟩ := z
    have lo : ∀ i k, i < 174 → Mr i k = Mc i k := fun i k hi => by rw [rr_lo z5 hi, z4 i k (by unfold mnS; omega), rm_lo x3 hi, ly_lo y3 hi, up_row _ _ _ (by omega)]
    have hF1 : Fr stp M Mc := ((ps_stp b2).tr (st_stp q4)).tr (s_stp (rc_scr q5))
    have hF2 : Fr stp Mc Mr := ((((s0_stp fr14).tr (s0_stp (ly_s0 y3))).tr (rm_stp x3)).tr (mn_stp z4)).tr (s_stp (rr_scr z5))
    refine ⟨z1, ⟨C, mn C n σ, mut_fin hI hN p3 hF1 hF2 lo q3 (b1.eq (fun i k e1 e2 => (q5 i k (by unfold rcS; omega)).trans (q4 i k (by unfold stS; omega)))) z3 (x2.2.2.eq c2 ((z5 174 28 (by unfold rrS; omega)).trans (z4 174 28 (by unfold mnS; omega))) (fun k => (z5 188 k (by unfold rrS; omega)).trans (z4 188 k (by unfold mnS; omega)))) hO' (by rw [mn_now]; omega)⟩, rowE (by show 2 ≤ 12; decide) (q2.fr (lo 0 16 (by decide)) (funext fun k => lo 173 k (by decide))) z2⟩
theorem st_forget {N : Nat} {M : Mem} (hN : N < 512) (h : Cpl N M) : Both N f_X10_forget f_X11_forget M := by
  obtain ⟨⟨C, σ, hI⟩, hR⟩ := h
  obtain ⟨a1, a2, a3, a4, a5, a6, a7, a8, a9, a10, a11, a12, a13, ⟨n, hp, hm, ht, b1, b2, b3, b4⟩⟩ := id hI
  have c2 := a1.2.1
  unfold Both f_X10_forget f_X10_forget_0 f_X11_forget f_X11_forget_0
  rw [wp_vl, wp_ml, wp_s, wp_ml, wp_vl, wp_ml, wp_s]
  have e : ∀ i k, ¬ (i = 120 ∧ k = 3) → ¬ (i = 174 ∧ (k = 14 ∨ k = 52)) → up (up (up M 120 3 0) 174 14 0) 174 52 0 i k = M i k := fun i k q1 q2 => by
    rw [up_at, if_neg (by omega), up_at, if_neg (by omega), up_at, if_neg (by omega)]
  refine ⟨?_, ⟨C, σ, a1, a2, by omega, hN, a5.eq2 c2 (fun i k q => e i k (by unfold cHo at q; omega) (by unfold cHo at q; omega)), a6.eq2 (fun i k q => e i k (by unfold cHo at q; omega) (by unfold cHo at q; omega)), IsC.eq (fun i k e1 e2 _ => e i k (by omega) (by omega)) a7, IsR.eq c2 (fun k _ => e 175 k (by omega) (by omega)) a8, a9.eq (fun i k q => e i k (by unfold cTx at q; omega) (by unfold cTx at q; omega)), a10.eq c2 (fun i k q => e i k (by unfold cDt at q; omega) (by unfold cDt at q; omega)), a11.eq c2 (fun i k q => e i k (by unfold cRl at q; omega) (by unfold cRl at q; omega)), a12.eq c2 (Nat.le_succ N) (fun i k q => e i k (by unfold cPs at q; omega) (by unfold cPs at q; omega)), a13.eq c2 (Nat.le_succ N) (fun i k q => e i k (by unfold cKp at q; omega) (by unfold cKp at q; omega)), ⟨0, hp, hm, ht, by decide, ?_, ?_, fun i hi => absurd hi (Nat.not_lt_zero i)⟩⟩, ?_⟩
  · rw [up_col _ _ _ (by decide), up_row _ _ _ (by decide), b2, b3]
  · simp [up_at]; rfl
  · simp [up_at]; rfl
  · exact hR.fr (e 0 16 (by omega) (by omega)) (funext fun k => e 173 k (by omega) (by omega)) (e 174 13 (by omega) (by omega)) (funext fun k => e 184 k (by omega) (by omega))
