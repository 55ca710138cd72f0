/-! group, room, row: they may throw -/
def ThP (P : Option Int32) (r : Int32) (M2 : Mem) : Prop := match P with
  | none => M2 174 14 = 1
  | some v => M2 174 14 = 0 ∧ r = v
theorem fr14b {M : Mem} {x y : Int32} : Fr scr0 M (up (up M 174 14 x) 174 14 y) := fr14.tr fr14
theorem st_group {N : Nat} {M : Mem} (hN : N < 512) (h : Cpl N M) (x y : Int32) : ∃ P, f_X10_group x y M = some (P, M) ∧ wp (f_X11_group x y M) (fun r M2 => Cpl (N + 1) M2 ∧ ThP P r M2) := by
  obtain ⟨⟨C, σ, hI⟩, hR⟩ := h
  obtain ⟨a1, a2, a3, a4, a5, a6, a7, a8, a9, a10, -⟩ := id hI
  have c2 := a1.2.1
  have m14 : CfR (up M 174 14 0) C := (hI.s0 fr14).2.2.2.2.2.1
  have gr : ∀ k, k ≠ 174 → up M 174 14 0 k = M k := fun k hk => up_row _ _ _ hk
  have lostQ : Cpl (N + 1) (up (up M 174 14 0) 174 14 1) ∧ ThP none 0 (up (up M 174 14 0) 174 14 1) := ⟨q_same hI hN hR fr14b, up_self _ _ _ _⟩
  have okQ : ∀ v, Cpl (N + 1) (up M 174 14 0) ∧ ThP (some v) v (up M 174 14 0) := fun v => ⟨q_same hI hN hR fr14, up_self _ _ _ _, rfl⟩
  have refLost : ¬ (∃ g, g < C.2.1 ∧ x = nI g ∧ ¬ y < 0 ∧ ¬ 8 < y) → wp (f_X11_group x y M) (fun r M2 => Cpl (N + 1) M2 ∧ ThP none r M2) := by
    intro hn
    unfold f_X11_group f_X11_group_0 f_X11_group_23 f_X11_lost f_X11_lost_0 f_X11_group_111
    rw [wp_ml]
    rcases gcase C.2.1 c2 x with ⟨g, hg, rfl⟩ | ⟨hx, _⟩
    · rw [isG_t a1 m14 hg, bd_e, if_neg (by decide), in_spec, bd_e, b2i_f (fun z => hn ⟨g, hg, rfl, z⟩), if_pos rfl, wp_bd, wp_ml, wp_s, wp_s]
      exact lostQ
    · rw [isG_f a1 m14 hx, bd_e, if_pos rfl, wp_bd, wp_ml, wp_s, wp_s]
      exact lostQ
  rcases gcase C.2.1 c2 x with ⟨g, hg, rfl⟩ | ⟨hx, hx2⟩
  · by_cases h1 : y < 0
    · refine ⟨none, ?_, refLost (fun ⟨_, _, _, z, _⟩ => z h1)⟩
      unfold f_X10_group f_X10_group_0 f_X10_group_21
      rw [hasG_t a1 a5 hg, bd_e, if_neg (by decide), if_pos h1]
    by_cases h2 : 8 < y
    · refine ⟨none, ?_, refLost (fun ⟨_, _, _, _, z⟩ => z h2)⟩
      unfold f_X10_group f_X10_group_0 f_X10_group_21
      rw [hasG_t a1 a5 hg, bd_e, if_neg (by decide), if_neg h1, if_pos h2]
    obtain ⟨d1, d2, d3, -⟩ := a10 g hg
    have hg6 : g < 6 := by omega
    have cl : ∀ P, (if y = 0 then gd (0 ≤ nI g ∧ (nI g).toNatClampNeg < 6) (some (some (M 4 (nI g).toNatClampNeg), M)) else if y = 1 then gd (0 ≤ nI g ∧ (nI g).toNatClampNeg < 6) (some (some (M 5 (nI g).toNatClampNeg), M)) else if y = 2 then gd (0 ≤ nI g ∧ (nI g).toNatClampNeg < 6) (some (some (M 6 (nI g).toNatClampNeg), M)) else if y = 3 then gd (0 ≤ nI g ∧ (nI g).toNatClampNeg < 6) (some (some (M 7 (nI g).toNatClampNeg), M)) else if y = 4 then gd (0 ≤ nI g ∧ (nI g).toNatClampNeg < 6) (some (some (M 27 (nI g).toNatClampNeg), M)) else if y = 5 then gd (0 ≤ nI g ∧ (nI g).toNatClampNeg < 6) (some (some (M 28 (nI g).toNatClampNeg), M)) else if y = 6 then gd (0 ≤ nI g ∧ (nI g).toNatClampNeg < 6) (some (some (M 29 (nI g).toNatClampNeg), M)) else if y = 7 then gd (0 ≤ nI g ∧ (nI g).toNatClampNeg < 6) (some (some (M 30 (nI g).toNatClampNeg), M)) else gd (0 ≤ nI g ∧ (nI g).toNatClampNeg < 6) (some (some (M 8 (nI g).toNatClampNeg), M))) = some (P, M) → f_X10_group (nI g) y M = some (P, M) := by
      intro P hP
      unfold f_X10_group f_X10_group_0 f_X10_group_21
      rw [hasG_t a1 a5 hg, bd_e, if_neg (by decide), if_neg h1, if_neg h2]
      exact hP
    have rf : ∀ Q, wp (f_X11_group (nI g) y M) Q ↔ wp (if y = 0 then gd (0 ≤ nI g ∧ (nI g).toNatClampNeg < 6) (some (up M 174 14 0 177 (nI g).toNatClampNeg, up M 174 14 0)) else if y = 1 then gd (0 ≤ nI g ∧ (nI g).toNatClampNeg < 6) (some (up M 174 14 0 178 (nI g).toNatClampNeg, up M 174 14 0)) else if y = 2 then gd (0 ≤ nI g ∧ (nI g).toNatClampNeg < 6) (some (up M 174 14 0 179 (nI g).toNatClampNeg, up M 174 14 0)) else if y = 3 then gd (0 ≤ nI g ∧ (nI g).toNatClampNeg < 6) (if up M 174 14 0 180 (nI g).toNatClampNeg = 0 then some (0, up M 174 14 0) else some (1, up M 174 14 0)) else if y = 4 then gd (0 ≤ nI g ∧ (nI g).toNatClampNeg < 25) (some (up M 174 14 0 175 (nI g).toNatClampNeg, up M 174 14 0)) else if y = 5 then gd (0 ≤ (6 : Int32) + nI g ∧ ((6 : Int32) + nI g).toNatClampNeg < 25) (some (up M 174 14 0 175 ((6 : Int32) + nI g).toNatClampNeg, up M 174 14 0)) else if y = 6 then gd (0 ≤ (12 : Int32) + nI g ∧ ((12 : Int32) + nI g).toNatClampNeg < 25) (some (up M 174 14 0 175 ((12 : Int32) + nI g).toNatClampNeg, up M 174 14 0)) else if y = 7 then gd (0 ≤ (18 : Int32) + nI g ∧ ((18 : Int32) + nI g).toNatClampNeg < 25) (some (up M 174 14 0 175 ((18 : Int32) + nI g).toNatClampNeg, up M 174 14 0)) else gd (0 ≤ nI g ∧ (nI g).toNatClampNeg < 6) (some (up M 174 14 0 182 (nI g).toNatClampNeg, up M 174 14 0))) Q := by
      intro Q
      unfold f_X11_group f_X11_group_0 f_X11_group_23 f_X11_lost f_X11_lost_0 f_X11_group_111
      rw [wp_ml, isG_t a1 m14 hg, bd_e, if_neg (by decide), in_spec, bd_e, b2i_t ⟨h1, h2⟩, if_neg (by decide)]
    obtain ⟨k, -, hk, rfl⟩ := rng (a := 0) (b := 8) (by decide) (by decide) h1 h2
    match k, hk with
    | 0, _ =>
      refine ⟨some (M 4 g), cl _ (by rw [if_pos (show nI 0 = 0 from rfl), gd_t (nI_inb hg6 (by decide)), nI_clamp (show g < 2 ^ 31 by omega)]), (rf _).mpr ?_⟩
      rw [if_pos (show nI 0 = 0 from rfl), gd_t (nI_inb hg6 (by decide)), nI_clamp (show g < 2 ^ 31 by omega), wp_s, gr 177 (by decide), (a6.2.2.2 g hg).2, ← (a5.2.2.2 g hg).2.1]
      exact okQ _
    | 1, _ =>
      refine ⟨some (M 5 g), cl _ (by rw [if_neg (show ¬ nI 1 = 0 by decide), if_pos (show nI 1 = 1 from rfl), gd_t (nI_inb hg6 (by decide)), nI_clamp (show g < 2 ^ 31 by omega)]), (rf _).mpr ?_⟩
      rw [if_neg (show ¬ nI 1 = 0 by decide), if_pos (show nI 1 = 1 from rfl), gd_t (nI_inb hg6 (by decide)), nI_clamp (show g < 2 ^ 31 by omega), wp_s, gr 178 (by decide), ← d1]
      exact okQ _
    | 2, _ =>
      refine ⟨some (M 6 g), cl _ (by rw [if_neg (show ¬ nI 2 = 0 by decide), if_neg (show ¬ nI 2 = 1 by decide), if_pos (show nI 2 = 2 from rfl), gd_t (nI_inb hg6 (by decide)), nI_clamp (show g < 2 ^ 31 by omega)]), (rf _).mpr ?_⟩
      rw [if_neg (show ¬ nI 2 = 0 by decide), if_neg (show ¬ nI 2 = 1 by decide), if_pos (show nI 2 = 2 from rfl), gd_t (nI_inb hg6 (by decide)), nI_clamp (show g < 2 ^ 31 by omega), wp_s, gr 179 (by decide), ← d2]
      exact okQ _
    | 3, _ =>
      refine ⟨some (b2i (C.2.2.2.1 g = true)), cl _ (by rw [if_neg (show ¬ nI 3 = 0 by decide), if_neg (show ¬ nI 3 = 1 by decide), if_neg (show ¬ nI 3 = 2 by decide), if_pos (show nI 3 = 3 from rfl), gd_t (nI_inb hg6 (by decide)), nI_clamp (show g < 2 ^ 31 by omega), (a5.2.2.2 g hg).1]), (rf _).mpr ?_⟩
      rw [if_neg (show ¬ nI 3 = 0 by decide), if_neg (show ¬ nI 3 = 1 by decide), if_neg (show ¬ nI 3 = 2 by decide), if_pos (show nI 3 = 3 from rfl), gd_t (nI_inb hg6 (by decide)), nI_clamp (show g < 2 ^ 31 by omega), gr 180 (by decide), (a6.2.2.2 g hg).1]
      by_cases z : C.2.2.2.1 g = true
      · rw [b2i_t z, if_neg (by decide), wp_s]
        exact okQ 1
      · rw [b2i_f z, if_pos rfl, wp_s]
        exact okQ 0
    | 4, _ =>
      refine ⟨some (pI (σ.1 g)), cl _ (by rw [if_neg (show ¬ nI 4 = 0 by decide), if_neg (show ¬ nI 4 = 1 by decide), if_neg (show ¬ nI 4 = 2 by decide), if_neg (show ¬ nI 4 = 3 by decide), if_pos (show nI 4 = 4 from rfl), gd_t (nI_inb hg6 (by decide)), nI_clamp (show g < 2 ^ 31 by omega), show M 27 g = pI (σ.1 g) from a7.1 g hg6]), (rf _).mpr ?_⟩
      rw [if_neg (show ¬ nI 4 = 0 by decide), if_neg (show ¬ nI 4 = 1 by decide), if_neg (show ¬ nI 4 = 2 by decide), if_neg (show ¬ nI 4 = 3 by decide), if_pos (show nI 4 = 4 from rfl), gd_t (nI_inb (show g < 25 by omega) (by decide)), nI_clamp (show g < 2 ^ 31 by omega), wp_s, gr 175 (by decide), a8.1 g hg]
      exact okQ _
    | 5, _ =>
      refine ⟨some (nI (σ.2.1 g)), cl _ (by rw [if_neg (show ¬ nI 5 = 0 by decide), if_neg (show ¬ nI 5 = 1 by decide), if_neg (show ¬ nI 5 = 2 by decide), if_neg (show ¬ nI 5 = 3 by decide), if_neg (show ¬ nI 5 = 4 by decide), if_pos (show nI 5 = 5 from rfl), gd_t (nI_inb hg6 (by decide)), nI_clamp (show g < 2 ^ 31 by omega), show M 28 g = nI (σ.2.1 g) from a7.2.1 g hg6]), (rf _).mpr ?_⟩
      rw [if_neg (show ¬ nI 5 = 0 by decide), if_neg (show ¬ nI 5 = 1 by decide), if_neg (show ¬ nI 5 = 2 by decide), if_neg (show ¬ nI 5 = 3 by decide), if_neg (show ¬ nI 5 = 4 by decide), if_pos (show nI 5 = 5 from rfl), la6, gd_t (nI_inb (show 6 + g < 25 by omega) (by decide)), nI_clamp (show 6 + g < 2 ^ 31 by omega), wp_s, gr 175 (by decide), a8.2.1 g hg]
      exact okQ _
    | 6, _ =>
      refine ⟨some (nI (σ.2.2.1 g)), cl _ (by rw [if_neg (show ¬ nI 6 = 0 by decide), if_neg (show ¬ nI 6 = 1 by decide), if_neg (show ¬ nI 6 = 2 by decide), if_neg (show ¬ nI 6 = 3 by decide), if_neg (show ¬ nI 6 = 4 by decide), if_neg (show ¬ nI 6 = 5 by decide), if_pos (show nI 6 = 6 from rfl), gd_t (nI_inb hg6 (by decide)), nI_clamp (show g < 2 ^ 31 by omega), show M 29 g = nI (σ.2.2.1 g) from a7.2.2.1 g hg6]), (rf _).mpr ?_⟩
      rw [if_neg (show ¬ nI 6 = 0 by decide), if_neg (show ¬ nI 6 = 1 by decide), if_neg (show ¬ nI 6 = 2 by decide), if_neg (show ¬ nI 6 = 3 by decide), if_neg (show ¬ nI 6 = 4 by decide), if_neg (show ¬ nI 6 = 5 by decide), if_pos (show nI 6 = 6 from rfl), la12, gd_t (nI_inb (show 12 + g < 25 by omega) (by decide)), nI_clamp (show 12 + g < 2 ^ 31 by omega), wp_s, gr 175 (by decide), a8.2.2.1 g hg]
      exact okQ _
    | 7, _ =>
      refine ⟨some (pI (σ.2.2.2.1 g)), cl _ (by rw [if_neg (show ¬ nI 7 = 0 by decide), if_neg (show ¬ nI 7 = 1 by decide), if_neg (show ¬ nI 7 = 2 by decide), if_neg (show ¬ nI 7 = 3 by decide), if_neg (show ¬ nI 7 = 4 by decide), if_neg (show ¬ nI 7 = 5 by decide), if_neg (show ¬ nI 7 = 6 by decide), if_pos (show nI 7 = 7 from rfl), gd_t (nI_inb hg6 (by decide)), nI_clamp (show g < 2 ^ 31 by omega), show M 30 g = pI (σ.2.2.2.1 g) from a7.2.2.2.1 g hg6]), (rf _).mpr ?_⟩
      rw [if_neg (show ¬ nI 7 = 0 by decide), if_neg (show ¬ nI 7 = 1 by decide), if_neg (show ¬ nI 7 = 2 by decide), if_neg (show ¬ nI 7 = 3 by decide), if_neg (show ¬ nI 7 = 4 by decide), if_neg (show ¬ nI 7 = 5 by decide), if_neg (show ¬ nI 7 = 6 by decide), if_pos (show nI 7 = 7 from rfl), la18, gd_t (nI_inb (show 18 + g < 25 by omega) (by decide)), nI_clamp (show 18 + g < 2 ^ 31 by omega), wp_s, gr 175 (by decide), a8.2.2.2.1 g hg]
      exact okQ _
    | 8, _ =>
      refine ⟨some (M 8 g), cl _ (by rw [if_neg (show ¬ nI 8 = 0 by decide), if_neg (show ¬ nI 8 = 1 by decide), if_neg (show ¬ nI 8 = 2 by decide), if_neg (show ¬ nI 8 = 3 by decide), if_neg (show ¬ nI 8 = 4 by decide), if_neg (show ¬ nI 8 = 5 by decide), if_neg (show ¬ nI 8 = 6 by decide), if_neg (show ¬ nI 8 = 7 by decide), gd_t (nI_inb hg6 (by decide)), nI_clamp (show g < 2 ^ 31 by omega)]), (rf _).mpr ?_⟩
      rw [if_neg (show ¬ nI 8 = 0 by decide), if_neg (show ¬ nI 8 = 1 by decide), if_neg (show ¬ nI 8 = 2 by decide), if_neg (show ¬ nI 8 = 3 by decide), if_neg (show ¬ nI 8 = 4 by decide), if_neg (show ¬ nI 8 = 5 by decide), if_neg (show ¬ nI 8 = 6 by decide), if_neg (show ¬ nI 8 = 7 by decide), gd_t (nI_inb hg6 (by decide)), nI_clamp (show g < 2 ^ 31 by omega), wp_s, gr 182 (by decide), ← d3]
      exact okQ _
    | k + 9, hk => omega
  · refine ⟨none, ?_, refLost (fun ⟨g, hg, e, _⟩ => hx2 g hg e)⟩
    unfold f_X10_group f_X10_group_0 f_X10_group_21
    rw [hasG_f a5 hx, bd_e, if_pos rfl]
theorem room66 {C : Cf} {r : Nat} (hC : COk C) (hr : r < C.1) : ∀ (m g n a : Nat) (M : Mem), g + m = C.2.1 → m < n → HlR M C → wp (f_X11_room_66 n (nI r) (nI a) (nI g) M) (fun v M' => v = nI (foldF (fun g a => a + Sy C g r) m g a) ∧ Fr soS M M')
  | 0, g, n + 1, a, M, he, _, hH => by
    have c2 := hC.2.1
    unfold f_X11_room_66
    rw [hH.1.2.1, if_neg (nI_nlt (by omega) (by omega)), wp_s]
    exact ⟨rfl, Fr.rf⟩
  | m + 1, g, n + 1, a, M, he, hn, hH => by
    have c2 := hC.2.1
    unfold f_X11_room_66
    rw [hH.1.2.1, if_pos (nI_lt (by omega) (by omega)), wp_bd]
    refine wp_mono (hH.stay hC (show g < C.2.1 by omega) hr) (fun v M1 w => ?_)
    obtain ⟨rfl, w2⟩ := w
    rw [wp_vl, wp_vl, nI_1, nI_add]
    exact wp_mono (room66 hC hr m (g + 1) n _ M1 (by omega) (by omega) (hH.eq (fun i k z => w2 i k (by unfold cHl at z; unfold soS; omega)))) (fun v M' y => ⟨y.1, w2.tr y.2⟩)
theorem st_room {N : Nat} {M : Mem} (hN : N < 512) (h : Cpl N M) (x y : Int32) : ∃ P, f_X10_room x y M = some (P, M) ∧ wp (f_X11_room x y M) (fun r M2 => Cpl (N + 1) M2 ∧ ThP P r M2) := by
  obtain ⟨⟨C, σ, hI⟩, hR⟩ := h
  obtain ⟨a1, a2, a3, a4, a5, a6, a7, a8, a9, a10, -⟩ := id hI
  have c1 := a1.1
  have c2 := a1.2.1
  have hI14 := hI.s0 (M' := up M 174 14 0) fr14
  have m14 : CfR (up M 174 14 0) C := hI14.2.2.2.2.2.1
  have gr : ∀ k, k ≠ 174 → up M 174 14 0 k = M k := fun k hk => up_row _ _ _ hk
  have lostQ : Cpl (N + 1) (up (up M 174 14 0) 174 14 1) ∧ ThP none 0 (up (up M 174 14 0) 174 14 1) := ⟨q_same hI hN hR fr14b, up_self _ _ _ _⟩
  have okQ : ∀ v, Cpl (N + 1) (up M 174 14 0) ∧ ThP (some v) v (up M 174 14 0) := fun v => ⟨q_same hI hN hR fr14, up_self _ _ _ _, rfl⟩
  have refLost : ¬ (∃ r, r < C.1 ∧ x = nI r ∧ ¬ y < 0 ∧ ¬ 2 < y) → wp (f_X11_room x y M) (fun r M2 => Cpl (N + 1) M2 ∧ ThP none r M2) := by
    intro hn
    unfold f_X11_room f_X11_room_0 f_X11_room_22 f_X11_lost f_X11_lost_0 f_X11_room_45
    rw [wp_ml]
    rcases gcase C.1 c1 x with ⟨g, hg, rfl⟩ | ⟨hx, _⟩
    · rw [isR_t a1 m14 hg, bd_e, if_neg (by decide), in_spec, bd_e, b2i_f (fun z => hn ⟨g, hg, rfl, z⟩), if_pos rfl, wp_bd, wp_ml, wp_s, wp_s]
      exact lostQ
    · rw [isR_f a1 m14 hx, bd_e, if_pos rfl, wp_bd, wp_ml, wp_s, wp_s]
      exact lostQ
  rcases gcase C.1 c1 x with ⟨r, hr, rfl⟩ | ⟨hx, hx2⟩
  · by_cases h1 : y < 0
    · refine ⟨none, ?_, refLost (fun ⟨_, _, _, z, _⟩ => z h1)⟩
      unfold f_X10_room f_X10_room_0 f_X10_room_20 f_X10_room_72
      rw [hasR_t a1 a5 hr, bd_e, if_neg (by decide), if_pos h1]
    by_cases h2 : 2 < y
    · refine ⟨none, ?_, refLost (fun ⟨_, _, _, _, z⟩ => z h2)⟩
      unfold f_X10_room f_X10_room_0 f_X10_room_20 f_X10_room_72
      rw [hasR_t a1 a5 hr, bd_e, if_neg (by decide), if_neg h1, if_pos h2]
    obtain ⟨k, -, hk, rfl⟩ := rng (a := 0) (b := 2) (by decide) (by decide) h1 h2
    match k, hk with
    | 0, _ =>
      refine ⟨some (b2i (C.2.2.1 r = true)), ?_, ?_⟩
      · unfold f_X10_room f_X10_room_0 f_X10_room_20 f_X10_room_72
        rw [hasR_t a1 a5 hr, bd_e, if_neg (by decide), if_neg h1, if_neg h2, if_pos (show nI 0 = 0 from rfl), corC a5 hr, bd_e]
        by_cases z : C.2.2.1 r = true
        · rw [b2i_t z, if_neg (by decide)]
        · rw [b2i_f z, if_pos rfl]
      · unfold f_X11_room f_X11_room_0 f_X11_room_22 f_X11_lost f_X11_lost_0 f_X11_room_45
        rw [wp_ml, isR_t a1 m14 hr, bd_e, if_neg (by decide), in_spec, bd_e, b2i_t ⟨h1, h2⟩, if_neg (by decide), if_pos (show nI 0 = 0 from rfl), gd_t (nI_inb (show r < 6 by omega) (by decide)), nI_clamp (by omega), gr 176 (by decide), a6.2.2.1 r hr]
        by_cases z : C.2.2.1 r = true
        · rw [b2i_t z, if_neg (by decide), wp_s]
          exact okQ 1
        · rw [b2i_f z, if_pos rfl, wp_s]
          exact okQ 0
    | 1, _ =>
      have eb : bI (fun g => decide (g < C.2.1) && σ.1 g == r + 1) = bI (fun g => σ.1 g == r + 1) := bI_ext (fun g _ => by
        by_cases z : g < C.2.1
        · rw [decide_eq_true z, Bool.true_and]
        · rw [decide_eq_false z, Bool.false_and, a2.2.1 g (by omega)]
          exact (beq_eq_false_iff_ne.mpr (by omega)).symm)
      refine ⟨some (bI (fun g => σ.1 g == r + 1)), ?_, ?_⟩
      · unfold f_X10_room f_X10_room_0 f_X10_room_20 f_X10_room_72
        rw [hasR_t a1 a5 hr, bd_e, if_neg (by decide), if_neg h1, if_neg h2, if_neg (show ¬ nI 1 = 0 by decide), if_pos (show nI 1 = 1 from rfl), show nI r = pI (r + 1) from (pI_s r).symm, ci_in a1 a7 a2.toM (by omega), bd_e]
      · unfold f_X11_room f_X11_room_0 f_X11_room_22 f_X11_lost f_X11_lost_0 f_X11_room_45
        rw [wp_ml, isR_t a1 m14 hr, bd_e, if_neg (by decide), in_spec, bd_e, b2i_t ⟨h1, h2⟩, if_neg (by decide), if_neg (show ¬ nI 1 = 0 by decide), if_pos (show nI 1 = 1 from rfl), show nI r = pI (r + 1) from (pI_s r).symm, ri_inRoom a1 m14 a2.toM (show IsRt C (up M 174 14 0 175) σ σ.2.2.2.2 by rw [gr 175 (by decide)]; exact a8) rfl (by omega), bd_e, wp_s, eb]
        exact okQ _
    | 2, _ =>
      refine ⟨some (nI (tog C (allB C.2.1) r)), ?_, ?_⟩
      · unfold f_X10_room f_X10_room_0 f_X10_room_20 f_X10_room_72
        rw [hasR_t a1 a5 hr, bd_e, if_neg (by decide), if_neg h1, if_neg h2, if_neg (show ¬ nI 2 = 0 by decide), if_neg (show ¬ nI 2 = 1 by decide), ci_every a1 a5, bd_e, c_tog a1 a5 _ hr, bd_e, tog_tb a1]
      · unfold f_X11_room f_X11_room_0 f_X11_room_22 f_X11_lost f_X11_lost_0 f_X11_room_45
        rw [wp_ml, isR_t a1 m14 hr, bd_e, if_neg (by decide), in_spec, bd_e, b2i_t ⟨h1, h2⟩, if_neg (by decide), if_neg (show ¬ nI 2 = 0 by decide), if_neg (show ¬ nI 2 = 1 by decide)]
        refine wp_mono (room66 a1 hr C.2.1 0 FU 0 _ (by omega) (by show C.2.1 < 2000; omega) hI14.hl) (fun v M' w => ?_)
        obtain ⟨w1, w2⟩ := w
        refine ⟨q_same hI hN hR (fr14.tr (w2.mn (fun i k z => s0_74 (by unfold soS at z; omega)))), (w2 174 14 (by unfold soS; omega)).trans (up_self _ _ _ _), ?_⟩
        rw [w1]
        congr 1
        unfold tog
        exact foldF_ext _ _ _ (fun g a _ hg => by rw [if_pos (by unfold allB; exact decide_eq_true (by omega))])
    | k + 3, hk => omega
  · refine ⟨none, ?_, refLost (fun ⟨g, hg, e, _⟩ => hx2 g hg e)⟩
    unfold f_X10_room f_X10_room_0 f_X10_room_20 f_X10_room_72
    rw [hasR_f a5 hx, bd_e, if_pos rfl]
theorem gcase' (c : Nat) (hc : c ≤ 12) (x : Int32) : (∃ g, g < c ∧ x = nI g) ∨ (x < 0 ∨ ¬ x < nI c) := by
  by_cases h0 : x < 0
  · exact Or.inr (Or.inl h0)
  · obtain ⟨j, hj, rfl⟩ := nI_of h0
    by_cases h : j < c
    · exact Or.inl ⟨j, h, rfl⟩
    · exact Or.inr (Or.inr (nI_nlt (by omega) hj))
theorem st_row {N : Nat} {M : Mem} (hN : N < 512) (h : Cpl N M) (x : Int32) : ∃ P, f_X10_row x M = some (P, M) ∧ wp (f_X11_row x M) (fun r M2 => Cpl (N + 1) M2 ∧ ThP P r M2) := by
  obtain ⟨⟨C, σ, hI⟩, hR⟩ := h
  obtain ⟨w, w1, w2, w3, w4⟩ := id hR
  have lostQ : Cpl (N + 1) (up (up M 174 14 0) 174 14 1) ∧ ThP none 0 (up (up M 174 14 0) 174 14 1) := ⟨q_same hI hN hR fr14b, up_self _ _ _ _⟩
  rcases gcase' w w1 x with ⟨k, hk, rfl⟩ | hx
  · refine ⟨some (M 173 k), ?_, ?_⟩
    · unfold f_X10_row f_X10_row_0
      rw [if_neg (nI_pos (by omega)), w2, if_pos (nI_lt hk (by omega)), if_pos (show nI k < 12 from nI_lt (b := 12) (by omega) (by decide)), gd_t (nI_inb (show k < 12 by omega) (by decide)), nI_clamp (by omega)]
    · unfold f_X11_row f_X11_row_0 f_X11_row_32
      rw [wp_ml, up_col _ _ _ (by decide), w3, in_spec, bd_e, b2i_t ⟨nI_pos (by omega), by rw [nI_sub1 (by omega)]; exact nI_nlt (by omega) (by omega)⟩, if_neg (by decide), gd_t (nI_inb (show k < 16 by omega) (by decide)), nI_clamp (by omega), wp_s, up_row _ _ _ (by decide), ← w4 k hk]
      exact ⟨q_same hI hN hR fr14, up_self _ _ _ _, rfl⟩
  · refine ⟨none, ?_, ?_⟩
    · unfold f_X10_row f_X10_row_0 f_X10_row_18
      by_cases z : x < 0
      · rw [if_pos z]
      · rw [if_neg z, w2, if_neg (hx.elim (fun u => absurd u z) id)]
    · unfold f_X11_row f_X11_row_0 f_X11_row_32 f_X11_lost f_X11_lost_0
      rw [wp_ml, up_col _ _ _ (by decide), w3, in_spec, bd_e, b2i_f (sub1_lt (by omega) hx), if_pos rfl, wp_bd, wp_ml, wp_s, wp_s]
      exact lostQ
