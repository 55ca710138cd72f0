/-! day -/
theorem st_day {N : Nat} {M : Mem} (hN : N < 512) (h : Cpl N M) : Both N f_X10_day f_X11_day M := by
  obtain ⟨⟨C, σ, hI⟩, hR⟩ := h
  obtain ⟨a1, a2, a3, a4, a5, a6, a7, a8, a9, a10, a11, ⟨lt, u, τ, p1, p2, p3⟩, a13, a14⟩ := id hI
  have c2 := a1.2.1
  obtain ⟨L, hTL⟩ := a9.tl
  obtain ⟨l80, e1, e2, ht⟩ := id hTL
  have hB : σ.2.2.2.2 < 2 ^ 28 := by omega
  have rh := hI.rh p2
  have ref : ∀ Mc : Mem, (∀ i k, 174 ≤ i → Mc i k = M i k) → wp (f_X11_day Mc) (fun r M' => M' 174 11 = 0 ∧ match dyP (txN M) L with
      | .inl f => r = -1 - nI f ∧ Fr dZ Mc M'
      | .inr l => r = nI (dos C l σ).1 ∧ IsR C (M' 175) (dos C l σ).2 ∧ RwR M' [if (dos C l σ).1 < l.length then 1 else 0, nI (tc (dos C l σ).2 - tc σ)] ∧ (if 0 < (dos C l σ).1 then PsR C M' (pu1 u) (psh σ τ) else PsR C M' u τ) ∧ Fr dW Mc M') := fun Mc ge =>
    day_ref a1 a2 hB p1.2.1 ⟨rh.1.eq (fun i k z => ge i k (by unfold cHl at z; omega)), IsR.eq c2 (fun k _ => ge 175 k (by decide)) rh.2.1, rh.2.2.eq c2 (ge 174 28 (by decide)) (fun k => ge 188 k (by decide))⟩ l80 ((ge 174 11 (by decide)).trans e2) (fun k hk => ⟨(ht k hk).1, (ge 183 k (by decide)).trans (ht k hk).2.2⟩)
  have q11 : up M 1 2 60 1 1 = nI L := by rw [up_col _ _ _ (by decide)]; exact e1
  have q12 : up M 1 2 60 1 2 = nI 60 := up_self _ _ _ _
  have hF2 : Fr (fun i k => i = 1 ∧ k = 2) M (up M 1 2 60) := Fr.up (S := fun i k => i = 1 ∧ k = 2) Fr.rf ⟨rfl, rfl⟩
  have hTX : TX (up M 1 2 60) (txN M) L 60 := ⟨l80, by decide, q11, q12, fun k hk => ⟨(ht k hk).1, (hF2 2 k (by omega)).trans (ht k hk).2.1⟩⟩
  have fod : f_X10_faultOfDay M = some (match dyP (txN M) L with
      | .inl f => nI f
      | .inr _ => -1, up M 1 2 60) := by
    unfold f_X10_faultOfDay f_X10_faultOfDay_0 dyP
    simp only [ml]
    rw [q11]
    by_cases h0 : L = 0
    · rw [if_pos (show nI L = 0 by rw [h0]; rfl), if_pos h0]
    · rw [if_neg (nI_ne0 (by omega) (by omega)), if_neg h0]
      exact fod25 hTX 81 0 FU 0 (by omega) (by decide) (Nat.zero_le _)
  unfold Both f_X10_day f_X10_day_0
  rw [fod, bd_e]
  generalize hM2 : up M 1 2 60 = M2 at *
  cases er : dyP (txN M) L with
  | inl f =>
    have hf : f ≤ 100 := by
      unfold dyP at er
      split at er
      · cases er
      · have := acs_l 81 0 f (Nat.zero_le _) er
        omega
    show wp (if nI f = -1 then _ else _) _
    rw [if_neg (nI_neq (by omega)), wp_ml, wp_s]
    refine wp_mono (ref _ (fun i k hi => by rw [up_row _ _ _ (by omega)]; exact hF2 i k (by omega))) (fun r Mr y => ?_)
    rw [er] at y
    obtain ⟨y1, y2, y3⟩ := y
    refine ⟨y2, z_same hI hN hR (fun i k hn => ?_)⟩
    unfold scr0 at hn
    by_cases g1 : i = 1 ∧ k = 1
    · obtain ⟨rfl, rfl⟩ := g1
      rw [y3 1 1 (by unfold dZ; omega), up_self]
      unfold Mz
      rw [up_row _ _ _ (by decide), up_self]
    · by_cases g2 : i = 174 ∧ k = 11
      · obtain ⟨rfl, rfl⟩ := g2
        rw [y1]
        unfold Mz
        rw [up_self]
      · rw [Mz_at M i k g1 g2, y3 i k (by unfold dZ; omega), up_at, if_neg g1]
        exact hF2 i k (by omega)
  | inr l =>
    obtain ⟨d1, d2, d3, d4⟩ := dyP_ok er
    obtain ⟨o1, o2, o3, o4, o5⟩ := dos_ok a1 l σ a2 d2
    show wp (if (-1 : Int32) = -1 then _ else _) _
    rw [if_pos rfl, wp_bd]
    have i26 : IsC C M2 26 σ := IsC.eq (fun i k h1 h2 _ => hF2 i k (by omega)) a7
    refine wp_mono (copy_spec (s := 31) (s1 := 26) (by decide) i26) (fun _ M6 q => ?_)
    obtain ⟨q1, q2⟩ := q
    have hT6 : TX M6 (txN M) L 60 := hTX.fr (fun i k hi => q2 i k (by unfold stS; omega))
    have told : f_X10_actsTold M6 = some (nI l.length, M6) := by
      unfold f_X10_actsTold f_X10_actsTold_0 f_X10_actsTold_15
      rw [hT6.2.2.1]
      by_cases h0 : L = 0
      · rw [if_pos (show nI L = 0 by rw [h0]; rfl), d3 h0]
        have := told18 hT6 0 0 0 FU (by omega) (by decide)
        exact this
      · rw [if_neg (nI_ne0 (by omega) (by omega)), ← (d4 h0).2, Nat.add_comm]
        exact told18 hT6 L 0 1 FU (by omega) (by show L < 2000; omega)
    rw [told, bd_e, wp_bd]
    unfold f_X10_doActs f_X10_doActs_0
    have i26' : IsC C M6 26 σ := IsC.eq (fun i k h1 h2 _ => q2 i k (by unfold stS; omega)) i26
    have m6 : CfC M6 C := a5.eq2 c2 (fun i k z => (q2 i k (by unfold cHo at z; unfold stS; omega)).trans (hF2 i k (by unfold cHo at z; omega)))
    refine wp_mono (doActs_cls (n := l.length) a1 l 0 FU 0 81 M6 σ (by omega) (by omega) (by show l.length < 2000; omega) (by omega) ?_ m6 i26' a2 (by omega) hT6) (fun r M12 z => ?_)
    · by_cases h0 : L = 0
      · exact Or.inl (d3 h0)
      · exact Or.inr (d4 h0).1
    obtain ⟨z1, z2, z3⟩ := z
    rw [Nat.zero_add] at z1
    rw [z1, wp_ml]
    have i31 : IsC C M12 31 σ := IsC.eq (fun i k h1 h2 _ => z3 i k (by unfold stS; omega)) q1
    generalize hk : (dos C l σ).1 = kk at *
    generalize hs : (dos C l σ).2 = σe at *
    have bc : bcn (bI (fun g => σe.1 g == 10) &&& (bI (fun g => σ.1 g == 10) ^^^ (-1))) = nI (tc σe - tc σ) := by
      rw [bI_but, bcn_bI, tc_up (σ := σ) (ρ := σe) o4, Nat.add_sub_cancel_left]
      rfl
    have tl : ∀ M1 : Mem, IsC C M1 26 σe → IsC C M1 31 σ → wp (f_X10_day_67 (nI l.length) (nI kk) M1) (fun r M' => r = nI kk ∧ RwC M' [if kk < l.length then 1 else 0, nI (tc σe - tc σ)] ∧ Fr rcS M1 M') := by
      intro M1 hA hB'
      unfold f_X10_day_67
      rw [wp_bd]
      refine wp_mono (clearRow_spec M1) (fun _ M3 w => ?_)
      obtain ⟨w1, w2⟩ := w
      have go : ∀ b : Int32, b = (if kk < l.length then 1 else 0) → wp (f_X10_day_82 (nI kk) b M3) (fun r M' => r = nI kk ∧ RwC M' [if kk < l.length then 1 else 0, nI (tc σe - tc σ)] ∧ Fr rcS M1 M') := by
        intro b hb
        unfold f_X10_day_82
        rw [wp_bd]
        refine wp_mono (tell_spec b w1 (by decide)) (fun _ M4 v => ?_)
        obtain ⟨v1, v2⟩ := v
        have hF4 := w2.tr v2
        have j26 : IsC C M4 26 σe := IsC.eq (fun i k h1 h2 _ => hF4 i k (by unfold rcS; omega)) hA
        have j31 : IsC C M4 31 σ := IsC.eq (fun i k h1 h2 _ => hF4 i k (by unfold rcS; omega)) hB'
        rw [ci_thr a1 j26 o1.toM, bd_e, ci_thr a1 j31 a2.toM, bd_e, bc_spec, bd_e, bc, wp_bd]
        refine wp_mono (tell_spec _ v1 (by show 1 < 12; decide)) (fun _ M5 x => ?_)
        rw [wp_s]
        exact ⟨rfl, by rw [← hb]; exact x.1, hF4.tr x.2⟩
      by_cases h : kk < l.length
      · rw [if_pos (nI_lt h (by omega))]; exact go 1 (by rw [if_pos h])
      · rw [if_neg (nI_nlt (by omega) (by omega))]; exact go 0 (by rw [if_neg h])
    have fin : ∀ Mc : Mem, Mc 1 1 = 0 → RwC Mc [if kk < l.length then 1 else 0, nI (tc σe - tc σ)] → IsC C Mc 26 σe → (if 0 < kk then ∃ lt', PsC C Mc lt' (pu1 u) (psh σ τ) else PsC C Mc lt u τ) → Fr (fun i k => i = 1 ∨ (26 ≤ i ∧ i ≤ 35) ∨ (46 ≤ i ∧ i ≤ 107) ∨ rcS i k) M Mc → (∀ k, k ≠ 1 → k ≠ 2 → Mc 1 k = M 1 k) → wp (f_X11_day Mc) (fun r' M2 => r' = nI kk ∧ Cpl (N + 1) M2) := by
      intro Mc h11 hrow hi26 hps hFc h1k
      refine wp_mono (ref Mc (fun i k hi => hFc i k (by unfold rcS; omega))) (fun r Mr y => ?_)
      rw [er] at y
      obtain ⟨y0, y1, y2, y3, y4, y5⟩ := y
      simp only [hk, hs] at y1 y2 y3 y4
      have lo : ∀ i k, i < 174 → Mr i k = Mc i k := fun i k hi => y5 i k (by unfold dW; omega)
      have hF : Fr stp (Mz M) Mr := by
        intro i k hn
        unfold stp scr scr0 at hn
        by_cases g1 : i = 1 ∧ k = 1
        · obtain ⟨rfl, rfl⟩ := g1
          rw [lo 1 1 (by decide), h11]
          unfold Mz
          rw [up_row _ _ _ (by decide), up_self]
        · by_cases g2 : i = 174 ∧ k = 11
          · obtain ⟨rfl, rfl⟩ := g2
            rw [y0]
            unfold Mz
            rw [up_self]
          · rw [Mz_at M i k g1 g2, y5 i k (by unfold dW; omega)]
            by_cases g3 : i = 1
            · subst g3
              exact h1k k (by omega) (by omega)
            · exact hFc i k (by unfold rcS; omega)
      have hn' : σe.2.2.2.2 ≤ 1800 * (N + 1) := by omega
      have hc26 : IsC C Mr 26 σe := IsC.eq (fun i k h1 h2 _ => lo i k (by omega)) hi26
      have hrw : RowE Mr := rowE (by show 2 ≤ 12; decide) (hrow.fr (lo 0 16 (by decide)) (funext fun k => lo 173 k (by decide))) y3
      refine ⟨y1, ⟨C, σe, ?_⟩, hrw⟩
      by_cases h0 : 0 < kk
      · rw [if_pos h0] at y4 hps
        obtain ⟨lt', hp⟩ := hps
        exact mut_fin hI.mz hN p3 hF Fr.rf (fun _ _ _ => rfl) hc26 (hp.eq (fun i k h1 h2 => lo i k (by omega))) y2 y4 o1 hn'
      · rw [if_neg h0] at y4 hps
        exact hI.mz.st (Nat.le_succ N) hN hF o1 hn' hc26 y2 ⟨lt, u, τ, hps.eq (fun i k h1 h2 => lo i k (by omega)), y4, fun j hj => ⟨(p3 j hj).1, by have := (p3 j hj).2; omega⟩⟩
    have hF12 : Fr (fun i k => (i = 1 ∧ (k = 1 ∨ k = 2)) ∨ (26 ≤ i ∧ i ≤ 35)) M (up M12 1 1 0) := ((hF2.mn (fun i k z => by omega)).tr ((q2.mn (fun i k z => by unfold stS at z; omega)).tr (z3.mn (fun i k z => by unfold stS at z; omega)))).up (by omega)
    have z11 : up M12 1 1 0 1 1 = 0 := up_self _ _ _ _
    have k26 : IsC C (up M12 1 1 0) 26 σe := IsC.eq (fun i k h1 h2 _ => by rw [up_row _ _ _ (by omega)]) z2
    have k31 : IsC C (up M12 1 1 0) 31 σ := IsC.eq (fun i k h1 h2 _ => by rw [up_row _ _ _ (by omega)]) i31
    generalize hM14 : up M12 1 1 0 = M14 at *
    have p14 : PsC C M14 lt u τ := p1.eq (fun i k h1 h2 => hF12 i k (by omega))
    by_cases h0 : 0 < kk
    · rw [if_pos (nIp h0 (by omega)), wp_bd]
      refine wp_mono (add_spec (s1 := 31) (by decide) k31 p14) (fun _ M36 w => ?_)
      obtain ⟨⟨lt', w1⟩, w2⟩ := w
      refine wp_mono (tl M36 (IsC.eq (fun i k h1 h2 _ => w2 i k (by unfold psS; omega)) k26) (IsC.eq (fun i k h1 h2 _ => w2 i k (by unfold psS; omega)) k31)) (fun r Mc v => ?_)
      obtain ⟨v1, v2, v3⟩ := v
      rw [v1]
      refine fin Mc ?_ v2 (IsC.eq (fun i k h1 h2 _ => (v3 i k (by unfold rcS; omega)).trans (w2 i k (by unfold psS; omega))) k26) ?_ ?_ ?_
      · rw [v3 1 1 (by unfold rcS; omega), w2 1 1 (by unfold psS; omega)]; exact z11
      · rw [if_pos h0]; exact ⟨lt', w1.eq (fun i k h1 h2 => v3 i k (by unfold rcS; omega))⟩
      · exact (hF12.mn (fun i k z => by omega)).tr ((w2.mn (fun i k z => by unfold psS at z; omega)).tr (v3.mn (fun i k z => Or.inr (Or.inr (Or.inr z)))))
      · intro k h1 h2
        rw [v3 1 k (by unfold rcS; omega), w2 1 k (by unfold psS; omega)]
        exact hF12 1 k (by omega)
    · have hk0 : kk = 0 := by omega
      rw [if_neg (show ¬ (0 : Int32) < nI kk by rw [hk0]; decide)]
      refine wp_mono (tl M14 k26 k31) (fun r Mc v => ?_)
      obtain ⟨v1, v2, v3⟩ := v
      rw [v1]
      refine fin Mc ?_ v2 (IsC.eq (fun i k h1 h2 _ => v3 i k (by unfold rcS; omega)) k26) ?_ ?_ ?_
      · rw [v3 1 1 (by unfold rcS; omega)]; exact z11
      · rw [if_neg h0]; exact p14.eq (fun i k h1 h2 => v3 i k (by unfold rcS; omega))
      · exact (hF12.mn (fun i k z => by omega)).tr (v3.mn (fun i k z => Or.inr (Or.inr (Or.inr z))))
      · intro k h1 h2
        rw [v3 1 k (by unfold rcS; omega)]
        exact hF12 1 k (by omega)
