/-! count, where, stuck -/
theorem cnt123 {C : Cf} {M : Mem} {σ : Sm} (hC : COk C) (hM : CfR M C) (hR : IsR C (M 175) σ) : wp (f_X11_count_123 FU 0 0 M) (fun r M' => r = nI (sumB (allB C.2.1) σ.2.2.1) ∧ M' = M) := by
  have c2 := hC.2.1
  refine wp_for (α := Int32) (fun m a x M => f_X11_count_123 m a x M) C.2.1 (fun k a M1 => M1 = M ∧ a = nI (foldF (fun g a => a + σ.2.2.1 g) k 0 0)) _ (fun m k a M1 hk hI kk => ?_) (fun m a M1 hI => ?_) C.2.1 0 FU 0 M (by omega) (by show C.2.1 < 2000; omega) ⟨rfl, rfl⟩
  · obtain ⟨rfl, i2⟩ := hI
    show wp (f_X11_count_123 (m + 1) a (nI k) M1) _
    unfold f_X11_count_123
    rw [hM.2.1, if_pos (nI_lt hk (by omega)), la12, gd_t (nI_inb (show 12 + k < 25 by omega) (by decide)), nI_clamp (by omega), wp_vl, wp_vl, nI_1, hR.2.2.1 k hk, i2, nI_add]
    refine kk _ M1 ⟨rfl, ?_⟩
    rw [foldF_last]
    simp
  · obtain ⟨rfl, i2⟩ := hI
    show wp (f_X11_count_123 (m + 1) a (nI C.2.1) M1) _
    unfold f_X11_count_123
    rw [hM.2.1, if_neg (nI_nlt (Nat.le_refl _) (by omega)), wp_s]
    refine ⟨?_, rfl⟩
    rw [i2]
    congr 1
    unfold sumB
    refine foldF_to 0 c2 (fun k x hk => ?_) (fun k x h1 _ => ?_)
    · rw [if_pos (by unfold allB; simpa using hk)]
    · rw [if_neg (by unfold allB; simpa using h1)]
theorem bit_all {C : Cf} {σ : Sm} (hC : COk C) (hO : OkM C σ) : (bI (allB C.2.1) &&& (bI (fun g => ins (σ.1 g)) ^^^ (-1))) &&& (bI (fun g => σ.1 g == 10) ^^^ (-1)) = bI (allB C.2.1) &&& bI (fun g => decide (g < C.2.1) && σ.1 g == 0) := by
  rw [bI_but, bI_but, bI_and]
  refine bI_ext (fun g hg => ?_)
  unfold allB ins
  by_cases h : g < C.2.1
  · simp only [h, decide_true, Bool.true_and]
    cases e0 : (σ.1 g == 0) with
    | true =>
      have : σ.1 g = 0 := beq_iff_eq.mp e0
      rw [this]; rfl
    | false =>
      cases (σ.1 g == 10) <;> rfl
  · simp [h]
theorem st_count {N : Nat} {M : Mem} (hN : N < 512) (h : Cpl N M) (x : Int32) : Both N (f_X10_count x) (f_X11_count x) M := by
  obtain ⟨⟨C, σ, hI⟩, hR⟩ := h
  obtain ⟨a1, a2, a3, a4, a5, a6, a7, a8, ⟨L, l1, l2, l3, l4⟩, a10, a11, ⟨lt, u, τ, p1, p2, p3⟩, a13, ⟨n, hp, hm, ht, b1, b2, b3, b4⟩⟩ := id hI
  obtain ⟨w, w1, w2, w3, w4⟩ := id hR
  have hI' := hI.C14 0
  have a6' := hI'.2.2.2.2.2.1
  have a8' := hI'.2.2.2.2.2.2.2.1
  have done : Cpl (N + 1) (up M 174 14 0) := q_same hI hN hR fr14
  unfold Both f_X10_count f_X10_count_0 f_X11_count f_X11_count_0
  by_cases h0 : x = 0
  · rw [if_pos h0, wp_s, wp_ml, if_pos h0, wp_s]
    exact ⟨by rw [up_col _ _ _ (by decide), a6.1, a5.1], done⟩
  rw [if_neg h0]
  by_cases h1 : x = 1
  · rw [if_pos h1, wp_s, wp_ml, if_neg h0, if_pos h1, wp_s]
    exact ⟨by rw [up_col _ _ _ (by decide), a6.2.1, a5.2.1], done⟩
  rw [if_neg h1]
  by_cases h2 : x = 2
  · rw [if_pos h2, wp_s, wp_ml, if_neg h0, if_neg h1, if_pos h2, gd_t (by decide), wp_s]
    exact ⟨by rw [up_row _ _ _ (by decide), c24, a8.2.2.2.2, a7.2.2.2.2.1], done⟩
  rw [if_neg h2]
  by_cases h3 : x = 3
  · rw [if_pos h3, ci_every a1 a5, bd_e, ci_ins a1 a7 a2.toM, bd_e, ci_thr a1 a7 a2.toM, bd_e, wp_s, wp_ml, if_neg h0, if_neg h1, if_neg h2, if_pos h3, ri_every a1 a6', bd_e, show (-1 : Int32) = pI 0 by decide, ri_inRoom a1 a6' a2.toM a8' rfl (by decide), bd_e, wp_s]
    refine ⟨?_, done⟩
    rw [show pI 0 = (-1 : Int32) by decide]
    exact (bit_all a1 a2.toM).symm
  rw [if_neg h3]
  by_cases h4 : x = 4
  · rw [if_pos h4, ci_ins a1 a7 a2.toM, bd_e, wp_s, wp_ml, if_neg h0, if_neg h1, if_neg h2, if_neg h3, if_pos h4, ri_ins a1 a6' a2.toM a8' rfl, bd_e, wp_s]
    exact ⟨rfl, done⟩
  rw [if_neg h4]
  by_cases h5 : x = 5
  · rw [if_pos h5, ci_thr a1 a7 a2.toM, bd_e, wp_s, wp_ml, if_neg h0, if_neg h1, if_neg h2, if_neg h3, if_neg h4, if_pos h5, show (9 : Int32) = pI 10 by decide, ri_inRoom a1 a6' a2.toM a8' rfl (by decide), bd_e, wp_s]
    refine ⟨bI_ext (fun g hg => ?_), done⟩
    by_cases h : g < C.2.1
    · simp [h]
    · simp [h, a2.2.1 g (by omega)]
  rw [if_neg h5]
  by_cases h6 : x = 6
  · rw [if_pos h6, ci_every a1 a5, bd_e, ci_waited a7, bd_e, wp_s, wp_ml, if_neg h0, if_neg h1, if_neg h2, if_neg h3, if_neg h4, if_neg h5, if_pos h6]
    refine wp_mono (cnt123 a1 a6' a8') (fun r M' q => ?_)
    rw [q.2, sumB_tb]
    exact ⟨q.1, done⟩
  rw [if_neg h6]
  by_cases h7 : x = 7
  · rw [if_pos h7, wp_s, wp_ml, if_neg h0, if_neg h1, if_neg h2, if_neg h3, if_neg h4, if_neg h5, if_neg h6, if_pos h7, wp_s]
    exact ⟨by rw [up_col _ _ _ (by decide), b2, b3], done⟩
  rw [if_neg h7]
  by_cases h8 : x = 8
  · rw [if_pos h8, wp_s, wp_ml, if_neg h0, if_neg h1, if_neg h2, if_neg h3, if_neg h4, if_neg h5, if_neg h6, if_neg h7, if_pos h8, wp_s]
    exact ⟨by rw [up_col _ _ _ (by decide), p2.1, p1.2.2.2.1], done⟩
  rw [if_neg h8]
  by_cases h9 : x = 9
  · rw [if_pos h9, wp_s, wp_ml, if_neg h0, if_neg h1, if_neg h2, if_neg h3, if_neg h4, if_neg h5, if_neg h6, if_neg h7, if_neg h8, if_pos h9, wp_s]
    exact ⟨by rw [up_col _ _ _ (by decide), w2, w3], done⟩
  rw [if_neg h9]
  by_cases h10 : x = 10
  · rw [if_pos h10, wp_s, wp_ml, if_neg h0, if_neg h1, if_neg h2, if_neg h3, if_neg h4, if_neg h5, if_neg h6, if_neg h7, if_neg h8, if_neg h9, if_pos h10, wp_s]
    exact ⟨by rw [up_col _ _ _ (by decide), l2, l3], done⟩
  rw [if_neg h10, wp_s, wp_ml, if_neg h0, if_neg h1, if_neg h2, if_neg h3, if_neg h4, if_neg h5, if_neg h6, if_neg h7, if_neg h8, if_neg h9, if_neg h10, wp_s]
  exact ⟨rfl, done⟩
/-! minutes to come -/
theorem lay191 {C : Cf} {σ : Sm} {M : Mem} (hc : C.2.1 ≤ 6) (hR : IsR C (M 175) σ) : wp (f_X11_lay 175 191 0 M) (fun _ M' => IsR C (M' 191) σ ∧ Fr (fun i _ => i = 191) M M') := by
  refine wp_mono (lay_spec (k0 := 0) (by decide) rfl (by decide) (by decide)) (fun _ M' q => ?_)
  refine ⟨IsR.eq hc (fun k hk => ?_) hR, fun i k hi => by rw [q.2.2 i hi]⟩
  have := q.1 k hk
  rw [Nat.zero_add] at this
  exact this
theorem l9_s0 {M M' : Mem} (h : Fr (fun i _ => i = 191) M M') : Fr scr0 M M' := h.mn (fun i k q => s0_9x (by have : i = 191 := q; omega))
/-- what the reference has to go on with, on the row laid aside -/
def GoR (C : Cf) (σ : Sm) (M : Mem) : Prop := CfR M C ∧ StR M C ∧ IsR C (M 191) σ
theorem GoR.mn {C : Cf} {σ : Sm} {M : Mem} (hC : COk C) (hO : Ok C σ) (h : GoR C σ M) : wp (f_X11_goMinute 191 M) (fun _ M' => GoR C (minute C σ) M' ∧ Fr (mnS 191) M M') := by
  refine wp_mono (gm_spec (Or.inr rfl) hC h.1 h.2.1 h.2.2 hO) (fun _ M' q => ⟨⟨CfR.fr (Or.inr rfl) q.2.2.2.2 h.1, StR.fr (Or.inr rfl) q.2.2.2.2 h.2.1, q.1⟩, q.2.2.2.2⟩)
/-- the reference lays stays and where all are aside -/
theorem r_aside {N : Nat} {C : Cf} {σ : Sm} {M Mc : Mem} (hI : InvE N C σ M) (hge : ∀ i k, 174 ≤ i → Mc i k = M i k) : wp (f_X11_layStays (up Mc 174 14 0)) (fun _ M' => (StR M' C ∧ HlR M' C ∧ IsR C (M' 175) σ) ∧ Fr scr0 Mc M' ∧ ∀ i k, i < 174 → M' i k = Mc i k) := by
  obtain ⟨lt, u, τ, p1, p2, p3⟩ := hI.2.2.2.2.2.2.2.2.2.2.2.1
  have r0 := RH.ge hI.1.2.1 (hI.rh p2) hge
  refine wp_mono (r0.ly hI.1) (fun _ M' q => ⟨⟨q.1, q.2.1.1, q.2.1.2.1⟩, fr14.tr (ly_s0 q.2.2), fun i k hi => by rw [ly_lo q.2.2 hi, up_row _ _ _ (by omega)]⟩)
theorem st_where {N : Nat} {M : Mem} (hN : N < 512) (h : Cpl N M) (x y : Int32) : Both N (f_X10_where x y) (f_X11_where x y) M := by
  obtain ⟨⟨C, σ, hI⟩, hR⟩ := h
  obtain ⟨a1, a2, a3, a4, a5, a6, a7, a8, a9⟩ := id hI
  have c2 := a1.2.1
  have hI' := hI.C14 0
  have done : Cpl (N + 1) (up M 174 14 0) := q_same hI hN hR fr14
  unfold Both f_X10_where f_X10_where_0 f_X10_where_11
  by_cases h1 : y < 0
  · rw [if_pos h1, wp_s]
    unfold f_X11_where f_X11_where_0
    rw [wp_ml, in_f1 _ h1, bd_e, if_pos rfl, wp_s]
    exact ⟨rfl, done⟩
  rw [if_neg h1]
  by_cases h2 : 400 < y
  · rw [if_pos h2, wp_s]
    unfold f_X11_where f_X11_where_0
    rw [wp_ml, in_f2 _ h2, bd_e, if_pos rfl, wp_s]
    exact ⟨rfl, done⟩
  rw [if_neg h2]
  rcases gcase C.2.1 c2 x with ⟨g, hg, rfl⟩ | ⟨hx, _⟩
  · obtain ⟨n, -, n4, rfl⟩ := rng (a := 0) (b := 400) (by decide) (by decide) h1 h2
    have g6 : g < 6 := by omega
    rw [hasG_t a1 a5 hg, bd_e, if_neg (by decide), wp_bd]
    refine wp_mono (copy_spec (s := 36) (by omega) a7) (fun _ M4 q => ?_)
    obtain ⟨q1, q2⟩ := q
    rw [wp_bd]
    refine wp_mono (goOn_spec (by decide) a1 (CfC.fr (by decide) c2 q2 a5) q1 a2 n4 (by omega)) (fun _ M5 z => ?_)
    obtain ⟨z1, z2⟩ := z
    rw [wp_bd]
    refine wp_mono (clearRow_spec M5) (fun _ M6 w => ?_)
    obtain ⟨w1, w2⟩ := w
    rw [gd_t (nI_inb g6 (by decide)), nI_clamp (by omega), wp_bd, w2 38 g (by unfold rcS; omega), z1.2.1 g g6]
    refine wp_mono (tell_spec _ w1 (by decide)) (fun _ M7 v => ?_)
    obtain ⟨v1, v2⟩ := v
    rw [gd_t (nI_inc g6 (by decide)), wp_bd, v2 39 g (by unfold rcS; omega), w2 39 g (by unfold rcS; omega), z1.2.2.1 g g6]
    refine wp_mono (tell_spec _ v1 (by show 1 < 12; decide)) (fun _ Mc s => ?_)
    obtain ⟨s1, s2⟩ := s
    have hrc : Fr rcS M5 Mc := (w2.tr v2).tr s2
    rw [gd_t (nI_inc g6 (by decide)), wp_s, hrc 37 g (by unfold rcS; omega), z1.1 g g6]
    have hge : ∀ i k, 174 ≤ i → Mc i k = M i k := fun i k hi => (hrc i k (by unfold rcS; omega)).trans ((z2 i k (by unfold stS; omega)).trans (q2 i k (by unfold stS; omega)))
    have hFc : Fr scr M Mc := (s0_scr ((st_scr (Or.inl (by decide)) q2).tr (st_scr (Or.inl (by decide)) z2))).tr (rc_scr hrc)
    unfold f_X11_where f_X11_where_0
    have m14 : CfR (up Mc 174 14 0) C := a6.eq2 (fun i k z => by
      rw [up_at, if_neg (by unfold cHo at z; omega)]
      exact hFc i k (by unfold cHo at z; unfold scr scr0; omega))
    rw [wp_ml, in_t _ h1 h2, bd_e, if_neg (by decide), isG_t a1 m14 hg, bd_e, if_neg (by decide), wp_bd]
    refine wp_mono (r_aside hI hge) (fun _ N1 e => ?_)
    obtain ⟨⟨e1, e2, e3⟩, e4, e5⟩ := e
    rw [wp_bd]
    refine wp_mono (lay191 c2 e3) (fun _ N2 f => ?_)
    obtain ⟨f1, f2⟩ := f
    have go0 : GoR C σ N2 := ⟨e2.1.eq2 (fun i k z => f2 i k (by show ¬ i = 191; unfold cHo at z; omega)), StR.eq (funext fun k => f2 187 k (show ¬ 187 = 191 by decide)) e1, f1⟩
    refine wp_for (α := Unit) (fun m _ x M => f_X11_where_48 m (nI g) (nI n) x M) n (fun k _ M1 => GoR C (mn C k σ) M1 ∧ Fr (mnS 191) N2 M1) _ (fun m k _ M1 hk hJ kk => ?_) (fun m _ M1 hJ => ?_) n 0 FU () N2 (by omega) (by show n < 2000; omega) ⟨go0, Fr.rf⟩
    · show wp (f_X11_where_48 (m + 1) (nI g) (nI n) (nI k) M1) _
      unfold f_X11_where_48
      rw [if_pos (nI_lt hk (by omega)), wp_bd]
      refine wp_mono (hJ.1.mn a1 (ok_mn a1 k a2)) (fun _ M2 t => ?_)
      rw [wp_vl, nI_1]
      exact kk () M2 ⟨by rw [mn_s]; exact t.1, hJ.2.tr t.2⟩
    · obtain ⟨⟨j1, j2, j3⟩, j4⟩ := hJ
      show wp (f_X11_where_48 (m + 1) (nI g) (nI n) (nI n) M1) _
      unfold f_X11_where_48
      rw [if_neg (nI_nlt (Nat.le_refl _) (by omega)), wp_ml]
      obtain ⟨r1, r2⟩ := rowr0 M1
      rw [la6, gd_t (nI_inb (show 6 + g < 25 by omega) (by decide)), nI_clamp (by omega), wp_bd, up_row _ _ _ (by decide), j3.2.1 g hg]
      refine wp_mono (tellr_spec _ r1 (by decide)) (fun _ M2 t => ?_)
      obtain ⟨t1, t2⟩ := t
      rw [la12, gd_t (nI_inb (show 12 + g < 25 by omega) (by decide)), nI_clamp (by omega), wp_bd, t2 191 _ (by unfold rrS; omega), up_row _ _ _ (by decide), j3.2.2.1 g hg]
      refine wp_mono (tellr_spec _ t1 (by show 1 < 16; decide)) (fun _ Mr y => ?_)
      obtain ⟨y1, y2⟩ := y
      have hrr : Fr rrS M1 Mr := (r2.tr t2).tr y2
      rw [gd_t (nI_inb (show g < 25 by omega) (by decide)), nI_clamp (by omega), wp_s, hrr 191 g (by unfold rrS; omega), j3.1 g hg]
      refine ⟨rfl, q_row hI hN ((hFc.tr (s0_scr ((e4.tr (l9_s0 f2)).tr (mn_scr j4)))).tr (rr_scr hrr)) (l := [] ++ [nI ((mn C n σ).2.1 g)] ++ [nI ((mn C n σ).2.2.1 g)]) (by show 2 ≤ 12; decide) ?_ y1⟩
      have lo : ∀ i k, i < 174 → Mr i k = Mc i k := fun i k hi => by rw [rr_lo hrr hi, j4 i k (by unfold mnS; omega), f2 i k (by show ¬ i = 191; omega), e5 i k hi]
      exact s1.fr (lo 0 16 (by decide)) (funext fun k => lo 173 k (by decide))
  · rw [hasG_f a5 hx, bd_e, if_pos rfl, wp_s]
    unfold f_X11_where f_X11_where_0
    rw [wp_ml, in_t _ h1 h2, bd_e, if_neg (by decide), isG_f a1 hI'.2.2.2.2.2.1 hx, bd_e, if_pos rfl, wp_s]
    exact ⟨rfl, done⟩
