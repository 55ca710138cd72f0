/-! pairs: the reference's half, and both -/
theorem gp_spec {C : Cf} {M0 : Mem} {tg : Nat → Int32} {z : Nat → Nat} (hC : COk C) (hM0 : CfR M0 C) (hT0 : StR M0 C) (ht : ∀ g, g < C.2.1 → M0 178 g = tg g) (hz : ∀ g, g < C.2.1 → M0 179 g = nI (z g)) (hz4 : ∀ g, g < C.2.1 → z g ≤ 40) : ∀ (k g n : Nat) (w : Nat → Nat) (p l : Nat) (b : Best) (M : Mem), g + k = C.2.1 → k < n → p ≤ g → l ≤ 7200 * g → (∀ j, j < 6 → w j ≤ 6) → (∀ j, j < 6 → M 198 j = pI (w j)) → BsR C.2.1 M b → BOk b → Fr prS M0 M → wp (f_X11_goPairs n (nI g) (nI p) (nI l) M) (fun _ M' => BsR C.2.1 M' (pr C.2.1 (jnB C tg z) (lsN C z) k g w p l b) ∧ (∀ j, j < 6 → M' 198 j = pI (w j)) ∧ Fr prS M0 M')
  | 0, g, n + 1, w, p, l, b, M, hk, _, hp, hl, hw6, hw, hb, hB, hF => by
    have c2 := hC.2.1
    have m0 : M 174 3 = nI C.2.1 := (hF 174 3 (by unfold prS; omega)).trans hM0.2.1
    show wp (b_X11_goPairs (f_X11_goPairs n) (nI g) (nI p) (nI l) M) _
    unfold b_X11_goPairs
    rw [show g = C.2.1 by omega]
    exact wp_mono (gp_judge hC m0 hb hB (by omega) (by omega) hw) (fun _ M' q => ⟨q.1, q.2.1, hF.tr q.2.2⟩)
  | k + 1, g, n + 1, w, p, l, b, M, hk, hn, hp, hl, hw6, hw, hb, hB, hF => by
    have c2 := hC.2.1
    have hls : ∀ a b, a < C.2.1 → b < C.2.1 → lsN C z a b ≤ 7200 := fun a b ha hb => lsN_le hC (hz4 a ha) (hz4 b hb)
    have m3 : ∀ {M1 : Mem}, Fr prS M0 M1 → M1 174 3 = nI C.2.1 := fun h => (h 174 3 (by unfold prS; omega)).trans hM0.2.1
    show wp (b_X11_goPairs (f_X11_goPairs n) (nI g) (nI p) (nI l) M) _
    unfold b_X11_goPairs f_X11_goPairs_0
    have hwg := hw6 g (by omega)
    rw [m3 hF, if_neg (fun y => by have := (nI_eq (by omega) (by omega)).mp y; omega), gd_t (nI_inb (show g < 6 by omega) (by decide)), nI_clamp (by omega), hw g (by omega), nI_1]
    by_cases h0 : w g = 0
    rotate_left
    · have e : pr C.2.1 (jnB C tg z) (lsN C z) (k + 1) g w p l b = pr C.2.1 (jnB C tg z) (lsN C z) k (g + 1) w p l b := by
        conv => lhs; unfold pr
        rw [if_neg h0]
      rw [if_neg (fun y => h0 ((pI_m1 (by omega)).mp y)), wp_bd, e]
      refine wp_mono (gp_spec hC hM0 hT0 ht hz hz4 k (g + 1) n w p l b M (by omega) (by omega) (by omega) (by omega) hw6 hw hb hB hF) (fun _ M7 q => ?_)
      rw [wp_s]
      exact q
    have e : pr C.2.1 (jnB C tg z) (lsN C z) (k + 1) g w p l b = foldF (fun o b => if w o = 0 ∧ jnB C tg z g o = true then pr C.2.1 (jnB C tg z) (lsN C z) k (g + 1) (fs (fs w g (o + 1)) o (g + 1)) (p + 1) (l + lsN C z g o) b else b) (C.2.1 - (g + 1)) (g + 1) (pr C.2.1 (jnB C tg z) (lsN C z) k (g + 1) w p l b) := by
      conv => lhs; unfold pr
      rw [if_pos h0]
    rw [if_pos ((pI_m1 (by omega)).mpr h0), wp_bd]
    refine wp_mono (gp_spec hC hM0 hT0 ht hz hz4 k (g + 1) n w p l b M (by omega) (by omega) (by omega) (by omega) hw6 hw hb hB hF) (fun _ M7 q => ?_)
    obtain ⟨q1, q2, q3⟩ := q
    have bo := bok_pr (jn := jnB C tg z) hls k (g + 1) w p l b (by omega) c2 (by omega) (by omega) hB
    rw [wp_vl, e]
    refine wp_for (α := Unit) (fun m _ x M => f_X11_goPairs_110 (f_X11_goPairs n) m (nI g) (nI p) (nI l) x M) C.2.1 (fun o _ M1 => g + 1 ≤ o ∧ BsR C.2.1 M1 (foldF (fun o b => if w o = 0 ∧ jnB C tg z g o = true then pr C.2.1 (jnB C tg z) (lsN C z) k (g + 1) (fs (fs w g (o + 1)) o (g + 1)) (p + 1) (l + lsN C z g o) b else b) (o - (g + 1)) (g + 1) (pr C.2.1 (jnB C tg z) (lsN C z) k (g + 1) w p l b)) ∧ BOk (foldF (fun o b => if w o = 0 ∧ jnB C tg z g o = true then pr C.2.1 (jnB C tg z) (lsN C z) k (g + 1) (fs (fs w g (o + 1)) o (g + 1)) (p + 1) (l + lsN C z g o) b else b) (o - (g + 1)) (g + 1) (pr C.2.1 (jnB C tg z) (lsN C z) k (g + 1) w p l b)) ∧ (∀ j, j < 6 → M1 198 j = pI (w j)) ∧ Fr prS M0 M1) _ (fun m o _ M1 ho hJ kk => ?_) (fun m _ M1 hJ => ?_) (C.2.1 - (g + 1)) (g + 1) FU () M7 (by omega) (by show C.2.1 - (g + 1) < 2000; omega) ⟨Nat.le_refl _, by rw [Nat.sub_self]; exact q1, by rw [Nat.sub_self]; exact bo, q2, q3⟩
    · obtain ⟨j0, j1, j2, j3, j4⟩ := hJ
      have fl := foldF_last (fun o b => if w o = 0 ∧ jnB C tg z g o = true then pr C.2.1 (jnB C tg z) (lsN C z) k (g + 1) (fs (fs w g (o + 1)) o (g + 1)) (p + 1) (l + lsN C z g o) b else b) (o - (g + 1)) (g + 1) (pr C.2.1 (jnB C tg z) (lsN C z) k (g + 1) w p l b)
      rw [show g + 1 + (o - (g + 1)) = o by omega, show o - (g + 1) + 1 = o + 1 - (g + 1) by omega] at fl
      have hwo := hw6 o (by omega)
      have skip : ¬ (w o = 0 ∧ jnB C tg z g o = true) → wp (f_X11_goPairs_193 (f_X11_goPairs n) (f_X11_goPairs_110 (f_X11_goPairs n) m) (nI g) (nI p) (nI l) (nI o) M1) _ := fun hn => by
        unfold f_X11_goPairs_193
        rw [wp_vl, nI_1]
        exact kk () M1 ⟨by omega, by rw [fl, if_neg hn]; exact j1, by rw [fl, if_neg hn]; exact j2, j3, j4⟩
      show wp (f_X11_goPairs_110 (f_X11_goPairs n) (m + 1) (nI g) (nI p) (nI l) (nI o) M1) _
      unfold f_X11_goPairs_110
      rw [m3 j4, if_pos (nI_lt ho (by omega)), gd_t (nI_inb (show o < 6 by omega) (by decide)), nI_clamp (show o < 2 ^ 31 by omega), j3 o (by omega)]
      by_cases hwo0 : w o = 0
      rotate_left
      · rw [if_neg (fun y => hwo0 ((pI_m1 (by omega)).mp y))]
        exact skip (fun y => hwo0 y.1)
      have mR : ∀ {M1 : Mem}, Fr prS M0 M1 → CfR M1 C ∧ StR M1 C := fun h => ⟨CfR.eq (h 174 1 (by unfold prS; omega)) (h 174 3 (by unfold prS; omega)) (fun i k e1 e2 => h i k (by unfold prS; omega)) hM0, StR.eq (funext fun k => h 187 k (by unfold prS; omega)) hT0⟩
      have f5 : ∀ {M1 : Mem}, Fr prS M0 M1 → ∀ a, a < C.2.1 → M1 178 a = tg a := fun h a ha => (h 178 a (by unfold prS; omega)).trans (ht a ha)
      have f6' : ∀ {M1 : Mem}, Fr prS M0 M1 → ∀ a, a < C.2.1 → M1 179 a = nI (z a) := fun h a ha => (h 179 a (by unfold prS; omega)).trans (hz a ha)
      rw [if_pos ((pI_m1 (by omega)).mpr hwo0), r_canJoin hC (mR j4).1 (by omega) ho (f5 j4 g (by omega)) (f5 j4 o ho) (f6' j4 g (by omega)) (f6' j4 o ho) (hz4 g (by omega)) (hz4 o ho), bd_e]
      by_cases hj : jnB C tg z g o = true
      rotate_left
      · rw [b2i_f hj, if_pos rfl]
        exact skip (fun y => hj y.2)
      have hlo := hls g o (by omega) ho
      have hF2 : Fr prS M0 (up (up M1 198 g (nI o)) 198 o (nI g)) := (j4.up (Or.inr (Or.inl rfl))).up (Or.inr (Or.inl rfl))
      rw [b2i_t hj, if_neg (by decide), gd_t (nI_inb (show g < 6 by omega) (by decide)), nI_clamp (show g < 2 ^ 31 by omega), wp_ml, gd_t (nI_inc (show o < 6 by omega) (by decide)), wp_ml, r_loss hC (mR hF2).1 (mR hF2).2 (by omega) ho (f6' hF2 g (by omega)) (f6' hF2 o ho), bd_e, wp_bd, nI_1, nI_1, nI_add]
      refine wp_mono (gp_spec hC hM0 hT0 ht hz hz4 k (g + 1) n (fs (fs w g (o + 1)) o (g + 1)) (p + 1) (l + lsN C z g o) _ _ (by omega) (by omega) (by omega) (by omega) (fun j hj => ?_) (fun j hj => ?_) (BsR.eq (fun i k q => by rw [up_row _ _ _ (by omega), up_row _ _ _ (by omega)]) j1) j2 hF2) (fun _ M8 y => ?_)
      · by_cases e1 : j = o
        · subst e1; rw [fs_s]; omega
        · rw [fs_n _ _ e1]
          by_cases e2 : j = g
          · subst e2; rw [fs_s]; omega
          · rw [fs_n _ _ e2]; exact hw6 j hj
      · by_cases e1 : j = o
        · subst e1; rw [up_self, fs_s, pI_s]
        · rw [up_col _ _ _ e1, fs_n _ _ e1]
          by_cases e2 : j = g
          · subst e2; rw [up_self, fs_s, pI_s]
          · rw [up_col _ _ _ e2, fs_n _ _ e2]; exact j3 j hj
      · obtain ⟨y1, y2, y3⟩ := y
        rw [gd_t (nI_inc (show g < 6 by omega) (by decide)), wp_ml, gd_t (nI_inc (show o < 6 by omega) (by decide)), wp_ml]
        unfold f_X11_goPairs_193
        rw [wp_vl, nI_1]
        have bo2 := bok_pr (jn := jnB C tg z) hls k (g + 1) (fs (fs w g (o + 1)) o (g + 1)) (p + 1) (l + lsN C z g o) _ (by omega) c2 (by omega) (by omega) j2
        refine kk () _ ⟨by omega, ?_, ?_, fun j hj => ?_, (y3.up (Or.inr (Or.inl rfl))).up (Or.inr (Or.inl rfl))⟩
        · rw [fl, if_pos ⟨hwo0, hj⟩]
          exact BsR.eq (fun i k q => by rw [up_row _ _ _ (by omega), up_row _ _ _ (by omega)]) y1
        · rw [fl, if_pos ⟨hwo0, hj⟩]
          exact bo2
        · by_cases e1 : j = o
          · subst e1; rw [up_self, hwo0]; decide
          · rw [up_col _ _ _ e1]
            by_cases e2 : j = g
            · subst e2; rw [up_self, h0]; decide
            · rw [up_col _ _ _ e2, y2 j hj, fs_n _ _ e1, fs_n _ _ e2]
    · obtain ⟨j0, j1, j2, j3, j4⟩ := hJ
      show wp (f_X11_goPairs_110 (f_X11_goPairs n) (m + 1) (nI g) (nI p) (nI l) (nI C.2.1) M1) _
      unfold f_X11_goPairs_110
      rw [m3 j4, if_neg (nI_nlt (Nat.le_refl _) (by omega)), wp_s]
      exact ⟨j1, j3, j4⟩
theorem map_sn {f : Nat → Int32} {k : Nat} {x : Int32} : (x :: (List.range k).map f) ++ [f k] = x :: (List.range (k + 1)).map f := by
  rw [List.range_succ, List.map_append, List.cons_append]
  rfl
theorem st_pairs {N : Nat} {M : Mem} (hN : N < 512) (h : Cpl N M) : Both N f_X10_pairs f_X11_pairs M := by
  obtain ⟨⟨C, σ, hI⟩, hR⟩ := h
  obtain ⟨a1, a2, a3, a4, a5, a6, a7, a8, a9, a10, a11⟩ := id hI
  have c2 := a1.2.1
  have hz4 : ∀ g, g < C.2.1 → szN M g ≤ 40 := fun g hg => (sz_ok a10 hg).2.1
  have hps := pr_some (c := C.2.1) (jn := jnB C (fun g => M 5 g) (szN M)) (ls := lsN C (szN M)) C.2.1 0 (fun _ => 0) 0 0 none
  obtain ⟨q, hq⟩ := Option.isSome_iff_exists.mp hps
  unfold Both f_X10_pairs f_X10_pairs_0 f_X2_find f_X2_find_0
  rw [wp_bd]
  have c_find : wp (f_X2_find_2 FU 0 M) (fun _ M2 => BsC M2 (some q) ∧ Fr pcS M M2) := by
    refine wp_for (α := Unit) (fun m _ x M => f_X2_find_2 m x M) 6 (fun k _ M1 => (∀ j, j < k → M1 171 j = -1) ∧ Fr pcS M M1) _ (fun m k _ M1 hk hJ kk => ?_) (fun m _ M1 hJ => ?_) 6 0 FU () M (by omega) (by decide) ⟨fun j hj => absurd hj (Nat.not_lt_zero j), Fr.rf⟩
    · show wp (f_X2_find_2 (m + 1) (nI k) M1) _
      unfold f_X2_find_2
      rw [if_pos (show nI k < 6 from nI_lt (b := 6) hk (by decide)), gd_t (nI_inb hk (by decide)), nI_clamp (by omega), wp_ml, wp_vl, nI_1]
      refine kk () _ ⟨fun j hj => ?_, hJ.2.up (Or.inr (Or.inl rfl))⟩
      by_cases e : j = k
      · subst e; rw [up_self]
      · rw [up_col _ _ _ e]; exact hJ.1 j (by omega)
    · show wp (f_X2_find_2 (m + 1) (nI 6) M1) _
      unfold f_X2_find_2
      rw [if_neg (by decide), wp_ml, wp_ml, wp_bd]
      have hF : Fr pcS M (up (up M1 170 3 (-1)) 170 4 0) := (hJ.2.up (Or.inl ⟨rfl, Or.inl rfl⟩)).up (Or.inl ⟨rfl, Or.inr rfl⟩)
      refine wp_mono (pf_spec (M0 := M) (tg := fun g => M 5 g) (z := szN M) a1 a5 (fun _ _ => rfl) (fun g hg => (sz_ok a10 hg).1) hz4 C.2.1 0 RU (fun _ => 0) 0 0 none _ (by omega) (by show C.2.1 < 100; omega) (by omega) (by omega) (fun _ _ => by omega) (fun j hj => ?_) (by show up (up M1 170 3 (-1)) 170 4 0 170 3 = -1; rw [up_col _ _ _ (by decide), up_self]) trivial hF) (fun _ M5 y => ?_)
      · rw [up_row _ _ _ (by decide), up_row _ _ _ (by decide), hJ.1 j hj]; decide
      · rw [wp_s]
        rw [hq] at y
        exact ⟨y.1, y.2.2⟩
  refine wp_mono c_find (fun _ M2 y => ?_)
  obtain ⟨y1, y2⟩ := y
  obtain ⟨b1, b2, b3⟩ := id y1
  rw [wp_bd]
  refine wp_mono (clearRow_spec M2) (fun _ M6 w => ?_)
  obtain ⟨w1, w2⟩ := w
  rw [wp_bd, w2 170 4 (by unfold rcS; omega), b2]
  refine wp_mono (tell_spec _ w1 (by decide)) (fun _ M7 v => ?_)
  obtain ⟨v1, v2⟩ := v
  have h27 : Fr rcS M2 M7 := w2.tr v2
  have y2s : Fr scr0 M M2 := y2.mn (fun i k q => s0_tr (by unfold pcS at q; omega))
  refine wp_for (α := Unit) (fun m _ x M => f_X10_pairs_24 m x M) C.2.1 (fun k _ M1 => RwC M1 (nI q.2.1 :: (List.range k).map (fun g => pI (q.2.2 g))) ∧ Fr rcS M2 M1) _ (fun m k _ M1 hk hJ kk => ?_) (fun m _ Mc hJ => ?_) C.2.1 0 FU () M7 (by omega) (by show C.2.1 < 2000; omega) ⟨v1, h27⟩
  · obtain ⟨j1, j2⟩ := hJ
    have m1 : M1 3 2 = nI C.2.1 := (j2 3 2 (by unfold rcS; omega)).trans ((y2 3 2 (by unfold pcS; omega)).trans a5.2.1)
    show wp (f_X10_pairs_24 (m + 1) (nI k) M1) _
    unfold f_X10_pairs_24
    rw [m1, if_pos (nI_lt hk (by omega)), gd_t (nI_inb (show k < 6 by omega) (by decide)), nI_clamp (by omega), j2 172 k (by unfold rcS; omega), b3 k (by omega), wp_bd]
    refine wp_mono (tell_spec _ j1 (by simp; omega)) (fun _ M8 s => ?_)
    rw [wp_vl, nI_1]
    refine kk () M8 ⟨?_, j2.tr s.2⟩
    rw [← map_sn]
    exact s.1
  · obtain ⟨j1, j2⟩ := hJ
    have m1 : Mc 3 2 = nI C.2.1 := (j2 3 2 (by unfold rcS; omega)).trans ((y2 3 2 (by unfold pcS; omega)).trans a5.2.1)
    show wp (f_X10_pairs_24 (m + 1) (nI C.2.1) Mc) _
    unfold f_X10_pairs_24
    rw [m1, if_neg (nI_nlt (Nat.le_refl _) (by omega)), wp_s, j2 170 3 (by unfold rcS; omega), b1]
    have hge : ∀ i k, 174 ≤ i → Mc i k = M i k := fun i k hi => (j2 i k (by unfold rcS; omega)).trans (y2 i k (by unfold pcS; omega))
    have hFc : Fr scr M Mc := (s0_scr y2s).tr (rc_scr j2)
    unfold f_X11_pairs f_X11_pairs_0
    rw [wp_ml, wp_bd]
    refine wp_mono (r_aside hI hge) (fun _ N1 e => ?_)
    obtain ⟨⟨e1, e2, e3⟩, e4, e5⟩ := e
    have n17 : ∀ i g, i = 178 ∨ i = 179 → N1 i g = M i g := fun i g hi => (e4 i g (by unfold scr0; omega)).trans (hge i g (by omega))
    refine wp_for (α := Unit) (fun m _ x M => f_X11_pairs_11 m x M) 6 (fun k _ M1 => (∀ j, j < k → M1 198 j = -1) ∧ Fr prS N1 M1) _ (fun m k _ M1 hk hJ kk => ?_) (fun m _ M1 hJ => ?_) 6 0 FU () N1 (by omega) (by decide) ⟨fun j hj => absurd hj (Nat.not_lt_zero j), Fr.rf⟩
    · show wp (f_X11_pairs_11 (m + 1) (nI k) M1) _
      unfold f_X11_pairs_11
      rw [if_pos (show nI k < 6 from nI_lt (b := 6) hk (by decide)), gd_t (nI_inb hk (by decide)), nI_clamp (by omega), wp_ml, wp_vl, nI_1]
      refine kk () _ ⟨fun j hj => ?_, hJ.2.up (Or.inr (Or.inl rfl))⟩
      by_cases e : j = k
      · subst e; rw [up_self]
      · rw [up_col _ _ _ e]; exact hJ.1 j (by omega)
    · show wp (f_X11_pairs_11 (m + 1) (nI 6) M1) _
      unfold f_X11_pairs_11
      rw [if_neg (by decide), wp_ml, wp_ml, wp_bd]
      have hF : Fr prS N1 (up (up M1 174 49 (-1)) 174 50 1000000) := (hJ.2.up (Or.inl ⟨rfl, Or.inl rfl⟩)).up (Or.inl ⟨rfl, Or.inr rfl⟩)
      refine wp_mono (gp_spec (M0 := N1) (tg := fun g => M 5 g) (z := szN M) a1 e2.1 e1 (fun g hg => (n17 178 g (Or.inl rfl)).trans (a10 g hg).1.symm) (fun g hg => (n17 179 g (Or.inr rfl)).trans (sz_ok a10 hg).2.2) hz4 C.2.1 0 RU (fun _ => 0) 0 0 none _ (by omega) (by show C.2.1 < 100; omega) (by omega) (by omega) (fun _ _ => by omega) (fun j hj => ?_) (by show up (up M1 174 49 (-1)) 174 50 1000000 174 49 = -1; rw [up_col _ _ _ (by decide), up_self]) trivial hF) (fun _ N2 y => ?_)
      · rw [up_row _ _ _ (by decide), up_row _ _ _ (by decide), hJ.1 j hj]; decide
      · rw [hq] at y
        obtain ⟨⟨d1, d2, d3⟩, -, d5⟩ := y
        rw [wp_ml]
        obtain ⟨r1, r2⟩ := rowr0 N2
        rw [wp_bd, up_col _ _ _ (by decide), d2]
        refine wp_mono (tellr_spec _ r1 (by decide)) (fun _ N3 s => ?_)
        obtain ⟨s1, s2⟩ := s
        refine wp_for (α := Unit) (fun m _ x M => f_X11_pairs_64 m x M) C.2.1 (fun k _ M1 => RwR M1 (nI q.2.1 :: (List.range k).map (fun g => pI (q.2.2 g))) ∧ Fr rrS N2 M1) _ (fun m k _ M1 hk hJ kk => ?_) (fun m _ Mr hJ => ?_) C.2.1 0 FU () N3 (by omega) (by show C.2.1 < 2000; omega) ⟨s1, r2.tr s2⟩
        · obtain ⟨k1, k2⟩ := hJ
          have m1 : M1 174 3 = nI C.2.1 := (k2 174 3 (by unfold rrS; omega)).trans ((d5 174 3 (by unfold prS; omega)).trans e2.1.2.1)
          show wp (f_X11_pairs_64 (m + 1) (nI k) M1) _
          unfold f_X11_pairs_64
          rw [m1, if_pos (nI_lt hk (by omega)), gd_t (nI_inb (show k < 6 by omega) (by decide)), nI_clamp (by omega), k2 199 k (by unfold rrS; omega), d3 k hk, wp_bd]
          refine wp_mono (tellr_spec _ k1 (by simp; omega)) (fun _ M8 s => ?_)
          rw [wp_vl, nI_1]
          refine kk () M8 ⟨?_, k2.tr s.2⟩
          rw [← map_sn]
          exact s.1
        · obtain ⟨k1, k2⟩ := hJ
          have m1 : Mr 174 3 = nI C.2.1 := (k2 174 3 (by unfold rrS; omega)).trans ((d5 174 3 (by unfold prS; omega)).trans e2.1.2.1)
          show wp (f_X11_pairs_64 (m + 1) (nI C.2.1) Mr) _
          unfold f_X11_pairs_64
          rw [m1, if_neg (nI_nlt (Nat.le_refl _) (by omega)), wp_s, k2 174 49 (by unfold rrS; omega), d1]
          have d5s : Fr scr0 N1 N2 := d5.mn (fun i k q => by
            rcases q with q | q | q
            · exact s0_74 (by omega)
            · exact s0_9x (by omega)
            · exact s0_9x (by omega))
          have lo : ∀ i k, i < 174 → Mr i k = Mc i k := fun i k hi => by rw [rr_lo k2 hi, d5 i k (by unfold prS; omega), e5 i k hi]
          exact ⟨rfl, q_row hI hN ((hFc.tr (s0_scr (e4.tr d5s))).tr (rr_scr k2)) (by simp; omega) (j1.fr (lo 0 16 (by decide)) (funext fun k => lo 173 k (by decide))) k1⟩
