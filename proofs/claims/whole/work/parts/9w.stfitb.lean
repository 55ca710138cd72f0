/-! fits, began: both agree -/
theorem hr_sc {C : Cf} {M M' : Mem} {tg : Nat → Nat} {h : Nat} {hp hm ht : Nat → Nat} (hF : Fr scr M M') (hH : HrR C M tg h hp hm ht) : HrR C M' tg h hp hm ht := hH.eq (hF 174 52 (by unfold scr scr0; omega)) (fun i k z => hF i k (by unfold scr scr0; omega))
theorem st_fits {N : Nat} {M : Mem} (hN : N < 512) (h : Cpl N M) (x : Int32) : Both N (f_X10_fits x) (f_X11_fits x) M := by
  obtain ⟨⟨C, σ, hI⟩, hR⟩ := h
  obtain ⟨a1, a2, a3, a4, a5, a6, a7, a8, -⟩ := id hI
  have c2 := a1.2.1
  obtain ⟨tg, h, hp, hm, ht, r1, r2⟩ := hI.hr
  unfold Both f_X10_fits f_X10_fits_0
  by_cases hx : ThoX C σ x
  · rw [(c_out a1 a5 a7 a2 x).1 hx, bd_e, if_neg (by decide)]
    obtain ⟨p, rfl, hpp⟩ := id hx
    refine fits_cls a1 a2 hpp (by omega) a5 a7 r1 (fun M1 q1 q2 q3 q4 => ?_)
    generalize hS : FtS C σ (lat h hm) (Sh C.2.1 tg h hp hm ht) p = S at q2 q3 q4 ⊢
    have ref : ∀ M2, Fr scr M M2 → RwC M2 (if 0 < S.1 then rI S.2.2.2 else []) → wp (f_X11_fits (bI p) M2) (fun r' M3 => r' = nI S.1 ∧ Cpl (N + 1) M3) := by
      intro M2 hF hw
      have hI2 := hI.sc hF
      unfold f_X11_fits f_X11_fits_0
      rw [wp_ml, (no_tho hI2 (bI p)).1 hx, bd_e, if_neg (by decide), wp_bd]
      refine wp_mono (ref_ly hI2) (fun _ M3 w => ?_)
      obtain ⟨w1, w2, w3⟩ := w
      obtain ⟨b1, b2, b3, b4, b5, b6, b7, b8, -⟩ := id w1
      rw [wp_bd]
      refine wp_mono (findFits_spec b1 b2 hpp (by omega) b6 w2 b8 (hr_sc (hF.tr (s0_scr w3)) r2)) (fun _ M4 y => ?_)
      rw [hS] at y
      obtain ⟨y1, y2, y3, y4, y5, y6⟩ := y
      have f24 : Fr scr0 M2 M4 := w3.tr (ff_s0 y6)
      rw [wp_ml]
      by_cases z : 0 < S.1
      · have io := q2 z
        have hlen := io.length_eq
        have h6 := io_len io
        rw [if_pos z] at hw
        refine wp_mono (fits31 (l := S.2.2.2) z q4 h6 S.2.2.2.length 0 FU _ (by omega) (by show _ < 2000; omega) (by rw [up_col _ _ _ (by decide), y5, hlen]) (by rw [up_col _ _ _ (by decide), y1]) (fun j g eg => by rw [up_row _ _ _ (by decide)]; exact y4 z j g eg) (by rw [List.take_zero]; exact (rowr0 M4).1)) (fun r M5 u => ?_)
        obtain ⟨u1, u2, u3⟩ := u
        refine ⟨u1, q_row (l := rI S.2.2.2) hI hN (((hF.tr (s0_scr f24)).tr (rr_scr (rowr0 M4).2)).tr (rr_scr u3)) (by rw [rI_len]; omega) (hw.fr ?_ (funext fun k => ?_)) u2⟩
        · rw [u3 0 16 (by unfold rrS; omega), up_row _ _ _ (by decide)]; exact f24 0 16 (by unfold scr0; omega)
        · rw [u3 173 k (by unfold rrS; omega), up_row _ _ _ (by decide)]; exact f24 173 k (by unfold scr0; omega)
      · rw [if_neg z] at hw
        have z0 : S.1 = 0 := by omega
        have e53 : up M4 174 13 0 174 53 = 0 := by rw [up_col _ _ _ (by decide), y1, z0]; rfl
        have en : wp (f_X11_fits_31 FU 0 (up M4 174 13 0)) (fun r M' => r = nI S.1 ∧ M' = up M4 174 13 0) := by
          show wp (f_X11_fits_31 (1999 + 1) 0 (up M4 174 13 0)) _
          unfold f_X11_fits_31 f_X11_fits_62
          rw [e53, if_neg (show ¬ (0 : Int32) < 0 by decide)]
          split
          · rw [wp_s, z0]; exact ⟨rfl, rfl⟩
          · rw [wp_s, z0]; exact ⟨rfl, rfl⟩
        refine wp_mono en (fun r M5 u => ?_)
        obtain ⟨u1, rfl⟩ := u
        refine ⟨u1, q_row (l := []) hI hN ((hF.tr (s0_scr f24)).tr (rr_scr (rowr0 M4).2)) (by decide) (hw.fr ?_ (funext fun k => ?_)) (rowr0 M4).1⟩
        · rw [up_row _ _ _ (by decide)]; exact f24 0 16 (by unfold scr0; omega)
        · rw [up_row _ _ _ (by decide)]; exact f24 173 k (by unfold scr0; omega)
    unfold f_X10_fits_89 f_X10_fits_101
    rw [wp_bd]
    refine wp_mono (clearRow_spec M1) (fun _ M2 w => ?_)
    have f2 : Fr scr M M2 := (s0_scr (ob_s0 q1)).tr (rc_scr w.2)
    by_cases z : 0 < S.1
    · rw [if_pos (nIp z (by omega)), wp_bd]
      refine wp_mono (tellFound_spec (l := S.2.2.2) (r0 := []) (by show 0 + S.2.2.2.length ≤ 12; have := io_len (q2 z); omega) ((q3 z).eq (w.2 126 1 (by unfold rcS; omega)) (fun k => w.2 127 k (by unfold rcS; omega))) w.1) (fun _ M3 y => ?_)
      rw [wp_s]
      exact ref M3 (f2.tr (rc_scr y.2)) (by rw [if_pos z]; exact y.1)
    · have z0 : S.1 = 0 := by omega
      rw [if_neg (show ¬ (0 : Int32) < nI S.1 by rw [z0]; decide), wp_s]
      exact ref M2 f2 (by rw [if_neg z]; exact w.1)
  · rw [(c_out a1 a5 a7 a2 x).2 hx, bd_e, if_pos rfl, wp_s]
    unfold f_X11_fits f_X11_fits_0
    rw [wp_ml, (no_tho hI x).2 hx, bd_e, if_pos rfl, wp_s]
    exact ⟨rfl, q_same hI hN hR fr14⟩
theorem st_began {N : Nat} {M : Mem} (hN : N < 512) (h : Cpl N M) (x : Int32) : Both N (f_X10_began x) (f_X11_began x) M := by
  obtain ⟨⟨C, σ, hI⟩, hR⟩ := h
  obtain ⟨a1, a2, a3, a4, a5, a6, a7, a8, -⟩ := id hI
  have c2 := a1.2.1
  obtain ⟨tg, h, hp, hm, ht, r1, r2⟩ := hI.hr
  unfold Both f_X10_began f_X10_began_0
  by_cases hx : ThoX C σ x
  · rw [(c_out a1 a5 a7 a2 x).1 hx, bd_e, if_neg (by decide)]
    obtain ⟨p, rfl, hpp⟩ := id hx
    refine began_cls a1 a2 hpp (by omega) a5 a7 r1 (fun M1 q1 => ?_)
    generalize hS : FtS C σ (lat h hm) (Sh C.2.1 tg h hp hm ht) p = S
    unfold f_X10_began_113
    rw [wp_bd]
    refine wp_mono (clearRow_spec M1) (fun _ M2 w => ?_)
    rw [wp_bd]
    refine wp_mono (tell_spec S.2.2.1 w.1 (by decide)) (fun _ M3 u => ?_)
    rw [wp_s]
    have f3 : Fr scr M M3 := ((s0_scr (ob_s0 q1)).tr (rc_scr w.2)).tr (rc_scr u.2)
    have hI3 := hI.sc f3
    unfold f_X11_began f_X11_began_0
    rw [wp_ml, (no_tho hI3 (bI p)).1 hx, bd_e, if_neg (by decide), wp_bd]
    refine wp_mono (ref_ly hI3) (fun _ M4 v => ?_)
    obtain ⟨w1, w2, w3⟩ := v
    obtain ⟨b1, b2, b3, b4, b5, b6, b7, b8, -⟩ := id w1
    rw [wp_bd]
    refine wp_mono (findFits_spec b1 b2 hpp (by omega) b6 w2 b8 (hr_sc (f3.tr (s0_scr w3)) r2)) (fun _ M5 y => ?_)
    rw [hS] at y
    obtain ⟨y1, y2, y3, y4, y5, y6⟩ := y
    have f35 : Fr scr0 M3 M5 := w3.tr (ff_s0 y6)
    rw [wp_ml, up_col _ _ _ (by decide), y3, wp_bd]
    refine wp_mono (tellr_spec S.2.2.1 (rowr0 M5).1 (by decide)) (fun _ M6 s => ?_)
    rw [wp_s]
    have f56 : Fr rrS M5 M6 := (rowr0 M5).2.tr s.2
    refine ⟨by rw [f56 174 54 (by unfold rrS; omega), y2], q_row (l := [S.2.2.1]) hI hN ((f3.tr (s0_scr f35)).tr (rr_scr f56)) (by show 1 ≤ 12; decide) (u.1.fr ?_ (funext fun k => ?_)) s.1⟩
    · rw [f56 0 16 (by unfold rrS; omega)]; exact f35 0 16 (by unfold scr0; omega)
    · rw [f56 173 k (by unfold rrS; omega)]; exact f35 173 k (by unfold scr0; omega)
  · rw [(c_out a1 a5 a7 a2 x).2 hx, bd_e, if_pos rfl, wp_s]
    unfold f_X11_began f_X11_began_0
    rw [wp_ml, (no_tho hI x).2 hx, bd_e, if_pos rfl, wp_s]
    exact ⟨rfl, q_same hI hN hR fr14⟩
