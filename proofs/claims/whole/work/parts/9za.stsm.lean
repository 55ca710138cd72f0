/-! smooth: both agree -/
theorem back_loop {C : Cf} {M : Mem} {x : Int32} {Q : Int32 → Mem → Prop} (hC : COk C) (hM : CfR M C) (hQ : wp (if (x &&& bI (fun g => decide (g < C.2.1) && C.2.2.2.1 g)) = 0 then f_X11_smooth_73 x M else if (x &&& (bI (fun g => decide (g < C.2.1) && C.2.2.2.1 g) ^^^ (-1))) = 0 then f_X11_smooth_73 x M else some ((-2), M)) Q) : ∀ (m k n : Nat), k + m = C.2.1 → m < n → wp (f_X11_smooth_23 n x (bI (fun g => decide (g < k) && C.2.2.2.1 g)) (nI k) M) Q
  | 0, k, n + 1, he, _ => by
    have c2 := hC.2.1
    have : k = C.2.1 := by omega
    subst this
    unfold f_X11_smooth_23
    rw [hM.2.1, if_neg (nI_nlt (Nat.le_refl _) (by omega))]
    exact hQ
  | m + 1, k, n + 1, he, hn => by
    have c2 := hC.2.1
    have hk : k < C.2.1 := by omega
    have ih := back_loop hC hM hQ m (k + 1) n (by omega) (by omega)
    unfold f_X11_smooth_23
    rw [hM.2.1, if_pos (nI_lt hk (by omega)), gd_t (nI_inb (show k < 6 by omega) (by decide)), nI_clamp (by omega), (hM.2.2.2 k hk).1]
    unfold f_X11_smooth_48
    by_cases z : C.2.2.2.1 k = true
    · rw [b2i_t z, if_neg (by decide), wp_vl, wp_vl, nI_1]
      have e : bI (fun g => decide (g < k) && C.2.2.2.1 g) ||| (1 <<< (nI k &&& 31)) = bI (fun g => decide (g < k + 1) && C.2.2.2.1 g) := by
        show obit k (bI (fun g => decide (g < k) && C.2.2.2.1 g)) = _
        rw [bI_set (by omega)]
        refine bI_ext (fun g _ => ?_)
        by_cases y : g = k
        · subst y; rw [if_pos rfl, z, decide_eq_true (show g < g + 1 by omega)]; rfl
        · rw [if_neg y]
          congr 1
          rw [decide_eq_decide]
          omega
      rw [e]
      exact ih
    · rw [b2i_f z, if_pos rfl, wp_vl, wp_vl, nI_1, or0]
      have e : bI (fun g => decide (g < k) && C.2.2.2.1 g) = bI (fun g => decide (g < k + 1) && C.2.2.2.1 g) := by
        refine bI_ext (fun g _ => ?_)
        by_cases y : g = k
        · subst y; rw [Bool.eq_false_iff.mpr z, Bool.and_false, Bool.and_false]
        · congr 1
          rw [decide_eq_decide]
          omega
      rw [e]
      exact ih
theorem st_smooth {N : Nat} {M : Mem} (hN : N < 512) (h : Cpl N M) (x : Int32) : Both N (f_X10_smooth x) (f_X11_smooth x) M := by
  obtain ⟨⟨C, σ, hI⟩, hR⟩ := h
  obtain ⟨a1, a2, a3, a4, a5, a6, a7, a8, -⟩ := id hI
  have c2 := a1.2.1
  have lo : ∀ {y : Int32}, ¬ y < 1 → ¬ y < 0 := by
    intro y h1 h2
    apply h1
    rw [Int32.lt_iff_toInt_lt] at h2 ⊢
    have : (0 : Int32).toInt = 0 := by decide
    have : (1 : Int32).toInt = 1 := by decide
    omega
  have m14 : ∀ {Mc : Mem}, Fr scr M Mc → CfR (up Mc 174 14 0) C := fun hF => ((hI.sc hF).s0 fr14).2.2.2.2.2.1
  have no : ¬ (∃ p, x = bI p ∧ Thn C p) → wp (f_X11_smooth x M) (fun r' M2 => r' = -1 ∧ Cpl (N + 1) M2) := by
    intro hx
    unfold f_X11_smooth f_X11_smooth_0
    rw [wp_ml, ri_every a1 (m14 Fr.rf), bd_e, in_spec, bd_e]
    have hno : ¬ (¬ x < 1 ∧ ¬ bI (allB C.2.1) < x) := by
      intro z
      obtain ⟨p, e, hp⟩ := (there_in c2 x).mp ⟨lo z.1, z.2⟩
      apply hx
      refine ⟨p, e, hp, ?_⟩
      apply Classical.byContradiction
      intro w
      have : x = 0 := by
        rw [e, bI_zero]
        intro g _
        rw [Bool.eq_false_iff]
        intro u
        exact w ⟨g, u⟩
      rw [this] at z
      exact z.1 (by decide)
    rw [b2i_f hno, if_pos rfl, wp_s]
    exact ⟨rfl, q_same hI hN hR fr14⟩
  unfold Both f_X10_smooth f_X10_smooth_0 f_X10_smooth_12
  rw [c_there a1 a5, bd_e]
  by_cases hx : ∃ p, x = bI p ∧ Thn C p
  · obtain ⟨p, rfl, hp⟩ := hx
    have hne : bI p ≠ 0 := by
      rw [Ne, bI_zero]
      intro z
      obtain ⟨g, hg⟩ := hp.2
      by_cases w : g < 6
      · rw [z g w] at hg; cases hg
      · rw [hp.1 g (by omega)] at hg; cases hg
    have hin := (there_in c2 (bI p)).mpr ⟨p, rfl, hp.1⟩
    have h1 : ¬ bI p < 1 := by
      obtain ⟨n, n1, n2⟩ := bI_le c2 hp.1
      have := pow6 c2
      rw [n2]
      refine nI_nlt (b := 1) ?_ (by omega)
      apply Classical.byContradiction
      intro z
      have : n = 0 := by omega
      rw [this] at n2
      exact hne n2
    rw [b2i_t ((there_iff c2 _).mpr ⟨p, rfl, hp.1⟩), if_neg (by decide), if_neg hne]
    have hway := way_loop (p := p) a1 a5 C.2.1 0 FU (false, false) (by omega) (by show C.2.1 < 2000; omega)
    obtain ⟨wi1, wi2⟩ := wy_iff (C := C) (p := p) C.2.1 0 (false, false)
    generalize hfw : foldF (wyS C p) C.2.1 0 (false, false) = W at hway wi1 wi2
    have egw : f_X10_goOneWay (bI p) M = some (b2i (W.1 ≠ W.2), M) := by
      unfold f_X10_goOneWay f_X10_goOneWay_0
      exact hway
    rw [egw, bd_e]
    -- who goes from behind, who from the front
    have f1 : W.1 = true ↔ ∃ j, j < C.2.1 ∧ p j = true ∧ C.2.2.2.1 j = false := by
      rw [wi1]
      exact ⟨fun h => h.elim (fun z => by cases z) (fun ⟨j, _, h2, h3⟩ => ⟨j, by omega, h3⟩), fun ⟨j, h2, h3⟩ => Or.inr ⟨j, Nat.zero_le _, by omega, h3⟩⟩
    have f2 : W.2 = true ↔ ∃ j, j < C.2.1 ∧ p j = true ∧ C.2.2.2.1 j = true := by
      rw [wi2]
      exact ⟨fun h => h.elim (fun z => by cases z) (fun ⟨j, _, h2, h3⟩ => ⟨j, by omega, h3⟩), fun ⟨j, h2, h3⟩ => Or.inr ⟨j, Nat.zero_le _, by omega, h3⟩⟩
    have hsome : W.1 = true ∨ W.2 = true := by
      obtain ⟨g, hg⟩ := hp.2
      have hgc : g < C.2.1 := by
        apply Classical.byContradiction
        intro z
        rw [hp.1 g (by omega)] at hg; cases hg
      cases e : C.2.2.2.1 g with
      | true => exact Or.inr (f2.mpr ⟨g, hgc, hg, e⟩)
      | false => exact Or.inl (f1.mpr ⟨g, hgc, hg, e⟩)
    have b1 : bI p &&& bI (fun g => decide (g < C.2.1) && C.2.2.2.1 g) = 0 ↔ W.2 = false := by
      rw [bI_and, bI_zero, ← Bool.not_eq_true, f2]
      constructor
      · rintro h ⟨j, j1, j2, j3⟩
        have := h j (by omega)
        rw [j2, j3, decide_eq_true j1] at this
        cases this
      · intro h g _
        rw [Bool.eq_false_iff]
        intro z
        simp only [Bool.and_eq_true, decide_eq_true_eq] at z
        exact h ⟨g, z.2.1, z.1, z.2.2⟩
    have b2 : bI p &&& (bI (fun g => decide (g < C.2.1) && C.2.2.2.1 g) ^^^ (-1)) = 0 ↔ W.1 = false := by
      rw [bI_but, bI_zero, ← Bool.not_eq_true, f1]
      constructor
      · rintro h ⟨j, j1, j2, j3⟩
        have := h j (by omega)
        rw [j2, j3, decide_eq_true j1] at this
        cases this
      · intro h g _
        rw [Bool.eq_false_iff]
        intro z
        simp only [Bool.and_eq_true, Bool.not_eq_true', Bool.and_eq_false_iff, decide_eq_false_iff_not] at z
        have hgc : g < C.2.1 := by
          apply Classical.byContradiction
          intro w
          have := hp.1 g (by omega)
          rw [z.1] at this
          cases this
        rcases z.2 with w | w
        · exact w hgc
        · exact h ⟨g, hgc, z.1, w⟩
    have refh : ∀ M2 Q, Fr scr M M2 → (W.1 ≠ W.2 → wp (f_X11_smooth_73 (bI p) (up M2 174 14 0)) Q) → (¬ W.1 ≠ W.2 → Q (-2) (up M2 174 14 0)) → wp (f_X11_smooth (bI p) M2) Q := by
      intro M2 Q hF k1 k2
      have hM14 := m14 hF
      unfold f_X11_smooth f_X11_smooth_0
      rw [wp_ml, ri_every a1 hM14, bd_e, in_spec, bd_e, b2i_t ⟨h1, hin.2⟩, if_neg (by decide)]
      have key := back_loop (x := bI p) (Q := Q) a1 hM14 ?_ C.2.1 0 FU (by omega) (by show C.2.1 < 2000; omega)
      · rw [show bI (fun g => decide (g < 0) && C.2.2.2.1 g) = 0 from bI_zero.mpr (fun g _ => by rw [decide_eq_false (Nat.not_lt_zero g), Bool.false_and])] at key
        exact key
      · by_cases z2 : W.2 = false
        · rw [if_pos (b1.mpr z2)]
          refine k1 ?_
          rcases hsome with u | u
          · rw [u, z2]; decide
          · rw [z2] at u; cases u
        · rw [if_neg (fun w => z2 (b1.mp w))]
          by_cases z1 : W.1 = false
          · rw [if_pos (b2.mpr z1)]
            refine k1 ?_
            intro w
            rw [w] at z1
            exact z2 z1
          · rw [if_neg (fun w => z1 (b2.mp w)), wp_s]
            refine k2 ?_
            rw [Bool.not_eq_false] at z1 z2
            intro w
            exact w (z1.trans z2.symm)
    by_cases hw : W.1 ≠ W.2
    · rw [b2i_t hw, if_neg (by decide)]
      refine smooth_cls a1 hp a5 (fun M1 y e y1 y2 y3 y4 => ?_)
      have h6 := io_len y2
      have f01 : Fr scr M M1 := s0_scr (ob_s0 (y4.mn (fun i k z => by unfold sooS at z; unfold obS; omega)))
      unfold f_X10_smooth_102
      rw [wp_bd]
      refine wp_mono (clearRow_spec M1) (fun _ M2 w => ?_)
      rw [wp_bd]
      refine wp_mono (tellFound_spec (l := y.2) (r0 := []) (by show 0 + y.2.length ≤ 12; omega) (y3.eq (w.2 126 1 (by unfold rcS; omega)) (fun k => w.2 127 k (by unfold rcS; omega))) w.1) (fun _ M3 u => ?_)
      have f13 : Fr rcS M1 M3 := w.2.tr u.2
      have f03 : Fr scr M M3 := f01.tr (rc_scr f13)
      have hM3 : CfC M3 C := (hI.sc f03).2.2.2.2.1
      rw [wp_bd]
      refine wp_mono (tellOff_loop (C := C) (l := y.2) (r0 := rI y.2) a1 (thn_l hp y2) (by rw [rI_len]; omega) y.2.length 0 FU M3 (by omega) (by show _ < 2000; omega) hM3 (y3.eq (f13 126 1 (by unfold rcS; omega)) (fun k => f13 127 k (by unfold rcS; omega))) (by show RwC M3 (rI y.2 ++ []); rw [List.append_nil]; exact u.1)) (fun _ M4 v => ?_)
      rw [wp_s]
      have f04 : Fr scr M M4 := f03.tr (rc_scr v.2)
      have hI4 := hI.sc f04
      refine refh M4 _ f04 (fun _ => ?_) (fun z => absurd hw z)
      unfold f_X11_smooth_73
      rw [wp_bd]
      refine wp_mono (ref_ly hI4) (fun _ M5 s => ?_)
      obtain ⟨s1, s2, s3⟩ := s
      refine smooth_ref a1 hp s1.2.2.2.2.2.1 s2 (fun M6 y' e' t1 t2 t3 => ?_)
      have : y' = y := Option.some.inj (e'.symm.trans e)
      subst this
      obtain ⟨t4, t5⟩ := t1 y' rfl
      have f46 : Fr scr0 M4 M6 := s3.tr (sr_s0 t3)
      refine sm259 (l := y'.2) h6 y'.2.length 0 FU _ (by omega) (by show _ < 2000; omega) (by rw [up_col _ _ _ (by decide)]; exact t2) (fun j g eg => by rw [up_row _ _ _ (by decide)]; exact t4 j g eg) (by rw [List.take_zero]; exact (rowr0 M6).1) (fun M7 r1 r2 => ?_)
      have f67 : Fr rrS M6 M7 := (rowr0 M6).2.tr r2
      refine wp_mono (sm288 (C := C) (l := y'.2) (r0 := rI y'.2) h6 (by rw [rI_len]; exact h6) y'.2.length 0 FU M7 (by omega) (by show _ < 2000; omega) ((f67 174 37 (by unfold rrS; omega)).trans t2) (fun j hj => (f67 195 j (by unfold rrS; omega)).trans (t5 j hj)) (by show RwR M7 (rI y'.2 ++ []); rw [List.append_nil]; exact r1)) (fun r M8 z => ?_)
      obtain ⟨z1, z2, z3⟩ := z
      have f68 : Fr rrS M6 M8 := f67.tr z3
      refine ⟨z1, q_row (l := rI y'.2 ++ soR C y'.2 y'.2.length) hI hN ((f04.tr (s0_scr f46)).tr (rr_scr f68)) (by rw [List.length_append, rI_len, soR_len]; omega) (v.1.fr ?_ (funext fun k => ?_)) z2⟩
      · rw [f68 0 16 (by unfold rrS; omega)]; exact f46 0 16 (by unfold scr0; omega)
      · rw [f68 173 k (by unfold rrS; omega)]; exact f46 173 k (by unfold scr0; omega)
    · rw [b2i_f hw, if_pos rfl, wp_s]
      exact refh M _ Fr.rf (fun z => absurd z hw) (fun _ => ⟨rfl, q_same hI hN hR fr14⟩)
  · by_cases z : (x &&& (bI (allB C.2.1) ^^^ (-1))) = 0
    · rw [b2i_t z, if_neg (by decide)]
      have : x = 0 := by
        obtain ⟨p, e, hp⟩ := (there_iff c2 x).mp z
        rw [e, bI_zero]
        intro g _
        rw [Bool.eq_false_iff]
        intro u
        exact hx ⟨p, e, hp, g, u⟩
      rw [if_pos this, wp_s]
      exact no hx
    · rw [b2i_f z, if_pos rfl, wp_s]
      exact no hx
