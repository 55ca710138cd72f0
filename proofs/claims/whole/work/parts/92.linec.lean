/-! the class reads a line, and all of them -/
theorem dgs_lt {lk : Nat → Nat} {p : Nat} : ∀ (m r f : Nat), dgs lk p m r = some f → p + r ≤ f ∧ f < p + r + m
  | 0, r, f, h => by cases h
  | m + 1, r, f, h => by
    unfold dgs at h
    split at h
    · have := dgs_lt m (r + 1) f h; omega
    · cases h; omega
theorem dgs_no {lk : Nat → Nat} {p : Nat} : ∀ (m r : Nat), dgs lk p m r = none → ∀ j, r ≤ j → j < r + m → isDg (lk (p + j)) = true
  | 0, r, _, j, h1, h2 => by omega
  | m + 1, r, h, j, h1, h2 => by
    unfold dgs at h
    split at h
    · rename_i hd
      by_cases e : j = r
      · subst e; exact hd
      · exact dgs_no m (r + 1) h j (by omega) (by omega)
    · cases h
/-- where a line's fields stand in the class -/
def FlC (M : Mem) (n g : Nat) (F : Fld) : Prop := M 4 g = nI F.1 ∧ M 5 g = nI F.2.1 ∧ M 6 g = nI F.2.2.1 ∧ M 7 g = b2i (F.2.2.2.1 = true) ∧ M 8 g = 0 ∧ ∀ r, r < n → M (10 + g) r = nI (F.2.2.2.2 r)
def lnS (g : Nat) : Nat → Nat → Prop := fun i k => (i = 25 ∧ k = 2) ∨ ((i = 4 ∨ i = 5 ∨ i = 6 ∨ i = 7 ∨ i = 8) ∧ k = g) ∨ i = 10 + g
def FOk (F : Fld) : Prop := F.1 ≤ 99 ∧ F.2.1 < 5 ∧ 1 ≤ F.2.2.1 ∧ F.2.2.1 ≤ 40 ∧ ∀ r, F.2.2.2.2 r ≤ 9 ∨ True
theorem l55_0 (M : Mem) : f_X4_readLine_55 0 M = some (0, M) := gd_t (by decide)
theorem l55_1 (M : Mem) : f_X4_readLine_55 1 M = some (1, M) := gd_t (by decide)
theorem c31_0 (M : Mem) : f_X4_readComes_31 0 M = some (0, M) := gd_t (by decide)
theorem c31_1 (M : Mem) : f_X4_readComes_31 1 M = some (1, M) := gd_t (by decide)
theorem readLine_cls {M : Mem} {t : Nat → Nat} {L n p g : Nat} (h : TX M t L 76) (hn : n ≤ 6) (h3 : M 3 0 = nI n) (h25 : M 25 2 = nI p) (hp : p ≤ min L 76) (hg : g < 6) : wp (f_X4_readLine (nI g) M) (fun r M' => Fr (lnS g) M M' ∧ match ln (lkp t (min L 76)) n p with
    | .inl f => r = 0 ∧ f ≤ 100 ∧ M' 25 2 = nI f
    | .inr q => r = 1 ∧ M' 25 2 = nI q.2 ∧ q.2 ≤ min L 76 ∧ p < q.2 ∧ FlC M' n g q.1 ∧ q.1.1 ≤ 99 ∧ q.1.2.1 < 5 ∧ 1 ≤ q.1.2.2.1 ∧ q.1.2.2.1 ≤ 40 ∧ ∀ r, r < n → q.1.2.2.2.2 r ≤ 9) := by
  have gd6 : ∀ (x : Option (Int32 × Mem)), gd (0 ≤ nI g ∧ g < 6) x = x := fun x => gd_t (nI_inc hg (by decide))
  have cg : (nI g).toNatClampNeg = g := nI_clamp (by omega)
  have l80 := h.1
  unfold f_X4_readLine f_X4_readLine_0 f_X4_readLine_54
  simp only [l55_0, l55_1]
  rw [cg, gd6, wp_ml]
  -- comes
  have hF0 : Fr (lnS g) M (up M 8 g 0) := Fr.rf.up (Or.inr (Or.inl ⟨by omega, rfl⟩))
  have tx : ∀ {M' : Mem}, Fr (lnS g) M M' → TX M' t L 76 := fun hF => h.fr (fun i k hi => hF i k (by unfold lnS; omega))
  have p5 : ∀ {A B : Mem}, Fr p25 A B → Fr (lnS g) A B := fun hF => hF.mn (fun i k q => Or.inl q)
  unfold f_X4_readComes f_X4_readComes_0
  simp only [c31_0, c31_1, cg, gd6]
  rw [wp_bd, wp_bd]
  refine wp_mono (rdNum (tx hF0) (by rw [up_row _ _ _ (by decide)]; exact h25) (by omega)) (fun r M1 q => ?_)
  obtain ⟨q1, q2⟩ := q
  rw [wp_ml, up_self]
  have hF1 : Fr (lnS g) M (up M1 4 g r) := (hF0.tr (p5 q2)).up (Or.inr (Or.inl ⟨by omega, rfl⟩))
  have d1 := digs_up (t := t) (L := min L 76) 2 0 p
  have b1 := digs_99 (lk := lkp t (min L 76)) p
  unfold ln
  by_cases hd : isDg (lkp t (min L 76) p) = true
  rotate_left
  · rw [if_neg hd] at q1
    rw [q1.1, if_pos rfl, wp_s, if_pos rfl, wp_s]
    simp only [Bool.eq_false_iff.mpr hd, if_true]
    rw [q1.1] at hF1
    exact ⟨hF1, by first | rfl | trivial, by omega, by rw [up_row _ _ _ (by decide)]; exact q1.2⟩
  rw [if_pos hd] at q1
  rw [q1.1, if_neg (nI_neq (by omega)), wp_s, if_neg (by decide)]
  rw [q1.1] at hF1
  simp only [hd, Bool.true_eq_false, if_false]
  -- tongue
  generalize hc : (digs (lkp t (min L 76)) 2 0 p).1 = c at *
  generalize hp1 : (digs (lkp t (min L 76)) 2 0 p).2 = p1 at *
  have dp1 : p1 ≤ min L 76 := d1.2 hp
  have e25 : up M1 4 g (nI c) 25 2 = nI p1 := by rw [up_row _ _ _ (by decide)]; exact q1.2
  have e4 : up M1 4 g (nI c) 4 g = nI c := up_self _ _ _ _
  have e8 : up M1 4 g (nI c) 8 g = 0 := by rw [up_row _ _ _ (by decide), q2 8 g (by unfold p25; omega), up_self]
  generalize hM2 : up M1 4 g (nI c) = M2 at *
  unfold f_X4_readTongue f_X4_readTongue_0 f_X4_readTongue_24
  obtain ⟨x, ex, hx, -⟩ := tx_at (p := p1) (tx hF1) (by omega)
  rw [e25, ex, bd_e]
  have hrg := hx.rg (lo := 118) (hi := 122) (by decide) (by decide)
  by_cases hl : 118 ≤ lkp t (min L 76) p1 ∧ lkp t (min L 76) p1 ≤ 122
  rotate_left
  · have hno : wp (some ((0 : Int32), M2)) (fun r M' => Fr (lnS g) M M' ∧ (r = 0 ∧ p1 ≤ 100 ∧ M' 25 2 = nI p1)) := wp_s.mpr ⟨hF1, rfl, by omega, e25⟩
    simp only [hl, not_false_eq_true, if_true]
    rw [wp_bd]
    by_cases h1 : x < 118
    · rw [if_pos h1, wp_s, if_pos rfl]; exact hno
    · rw [if_neg h1, if_pos (show 122 < x from Classical.byContradiction fun z => hl (hrg.mp ⟨h1, z⟩)), wp_s, if_pos rfl]; exact hno
  have hx12 := hrg.mpr hl
  have hxe : x = nI (lkp t (min L 76) p1) := by
    rcases hx with ⟨_, e⟩ | ⟨e, _⟩
    · exact e
    · omega
  have hlt1 : p1 < min L 76 := lkp_lo (t := t) (fun e => by omega)
  simp only [hl, and_self, not_true_eq_false, if_false]
  rw [wp_bd, if_neg (show ¬ x < 118 from hx12.1), if_neg (show ¬ 122 < x from hx12.2), cg, gd6, wp_ml, wp_ml, wp_s, if_neg (by decide), hxe, show nI (lkp t (min L 76) p1) - 118 = nI (lkp t (min L 76) p1 - 118) from pk_sub (b := 118) hl.1, up_row _ _ _ (by decide), e25, nI_1]
  have hF3 : Fr (lnS g) M (up (up M2 5 g (nI (lkp t (min L 76) p1 - 118))) 25 2 (nI (p1 + 1))) := (hF1.up (Or.inr (Or.inl ⟨by omega, rfl⟩))).up (Or.inl ⟨rfl, rfl⟩)
  have f4 : up (up M2 5 g (nI (lkp t (min L 76) p1 - 118))) 25 2 (nI (p1 + 1)) 4 g = nI c := by rw [up_row _ _ _ (by decide), up_row _ _ _ (by decide)]; exact e4
  have f8 : up (up M2 5 g (nI (lkp t (min L 76) p1 - 118))) 25 2 (nI (p1 + 1)) 8 g = 0 := by rw [up_row _ _ _ (by decide), up_row _ _ _ (by decide)]; exact e8
  have f5 : up (up M2 5 g (nI (lkp t (min L 76) p1 - 118))) 25 2 (nI (p1 + 1)) 5 g = nI (lkp t (min L 76) p1 - 118) := by rw [up_row _ _ _ (by decide), up_self]
  have f25 : up (up M2 5 g (nI (lkp t (min L 76) p1 - 118))) 25 2 (nI (p1 + 1)) 25 2 = nI (p1 + 1) := up_self _ _ _ _
  generalize hM3 : up (up M2 5 g (nI (lkp t (min L 76) p1 - 118))) 25 2 (nI (p1 + 1)) = M3 at *
  -- size
  unfold f_X4_readSize f_X4_readSize_0 f_X4_readSize_23
  rw [wp_bd, wp_bd]
  refine wp_mono (rdNum (tx hF3) f25 (by omega)) (fun r M4 y => ?_)
  obtain ⟨y1, y2⟩ := y
  have d2 := digs_up (t := t) (L := min L 76) 2 0 (p1 + 1)
  have b2 := digs_99 (lk := lkp t (min L 76)) (p1 + 1)
  have hF4 : Fr (lnS g) M M4 := hF3.tr (p5 y2)
  by_cases hd2 : isDg (lkp t (min L 76) (p1 + 1)) = true
  rotate_left
  · rw [if_neg hd2] at y1
    simp only [Bool.eq_false_iff.mpr hd2, if_true]
    rw [y1.1, if_pos rfl, wp_s, if_pos rfl, wp_s]
    exact ⟨hF4, rfl, by omega, y1.2⟩
  have hlt2 : p1 + 1 < min L 76 := lkp_lo (t := t) (fun e => by rw [e] at hd2; exact absurd hd2 (by decide))
  have gt2 : p1 + 1 < (digs (lkp t (min L 76)) 2 0 (p1 + 1)).2 := by
    have := (prim_up (t := t) (L := min L 76) (ev := fun _ => 0) (p1 + 1))
    have e : digs (lkp t (min L 76)) 2 0 (p1 + 1) = digs (lkp t (min L 76)) 1 (0 * 10 + (lkp t (min L 76) (p1 + 1) - 48)) (p1 + 1 + 1) := by
      conv => lhs; unfold digs
      rw [if_pos hd2]
    rw [e]
    have := (digs_up (t := t) (L := min L 76) 1 (0 * 10 + (lkp t (min L 76) (p1 + 1) - 48)) (p1 + 1 + 1)).1
    omega
  rw [if_pos hd2] at y1
  simp only [hd2, Bool.true_eq_false, if_false]
  generalize hz : (digs (lkp t (min L 76)) 2 0 (p1 + 1)).1 = z at *
  generalize hp3 : (digs (lkp t (min L 76)) 2 0 (p1 + 1)).2 = p3 at *
  have dp3 : p3 ≤ min L 76 := d2.2 (by omega)
  rw [y1.1, if_neg (nI_neq (by omega))]
  by_cases hz1 : 1 ≤ z ∧ z ≤ 40
  rotate_left
  · have hno : wp (ml (up M4 25 2 (M4 25 2 - 1)) fun M6 => some ((0 : Int32), M6)) (fun r M' => Fr (lnS g) M M' ∧ (r = 0 ∧ p3 - 1 ≤ 100 ∧ M' 25 2 = nI (p3 - 1))) := by
      rw [wp_ml, wp_s, y1.2, nI_sub1 (by omega)]
      exact ⟨hF4.up (Or.inl ⟨rfl, rfl⟩), rfl, by omega, up_self _ _ _ _⟩
    simp only [hz1, not_false_eq_true, if_true]
    by_cases h1 : z < 1
    · rw [if_pos (show nI z < 1 from nI_lt (b := 1) h1 (by decide)), wp_ml, wp_s, if_pos rfl, wp_s]
      rw [wp_ml, wp_s] at hno
      exact hno
    · rw [if_neg (show ¬ nI z < 1 from nI_nlt (b := 1) (by omega) (by omega)), if_pos (show 40 < nI z from nI_lt (a := 40) (by omega) (by omega)), wp_ml, wp_s, if_pos rfl, wp_s]
      rw [wp_ml, wp_s] at hno
      exact hno
  simp only [hz1, and_self, not_true_eq_false, if_false]
  rw [if_neg (show ¬ nI z < 1 from nI_nlt (b := 1) hz1.1 (by omega)), if_neg (show ¬ 40 < nI z from nI_nlt (a := 40) hz1.2 (by decide)), cg, gd6, wp_ml, wp_s, if_neg (by decide)]
  have hF5 : Fr (lnS g) M (up M4 6 g (nI z)) := hF4.up (Or.inr (Or.inl ⟨by omega, rfl⟩))
  have g4 : up M4 6 g (nI z) 4 g = nI c := by rw [up_row _ _ _ (by decide), y2 4 g (by unfold p25; omega)]; exact f4
  have g5 : up M4 6 g (nI z) 5 g = nI (lkp t (min L 76) p1 - 118) := by rw [up_row _ _ _ (by decide), y2 5 g (by unfold p25; omega)]; exact f5
  have g6 : up M4 6 g (nI z) 6 g = nI z := up_self _ _ _ _
  have g8 : up M4 6 g (nI z) 8 g = 0 := by rw [up_row _ _ _ (by decide), y2 8 g (by unfold p25; omega)]; exact f8
  have g25 : up M4 6 g (nI z) 25 2 = nI p3 := by rw [up_row _ _ _ (by decide)]; exact y1.2
  generalize hM5 : up M4 6 g (nI z) = M5 at *
  -- way
  unfold f_X4_readWay f_X4_readWay_0 f_X4_readWay_26 f_X4_readWay_45
  obtain ⟨w, ew, hw, -⟩ := tx_at (p := p3) (tx hF5) (by omega)
  simp only [cg, gd6]
  rw [g25, ew, bd_e, wp_bd]
  by_cases hwy : lkp t (min L 76) p3 = 60 ∨ lkp t (min L 76) p3 = 62
  rotate_left
  · simp only [hwy, not_false_eq_true, if_true]
    rw [if_neg (show ¬ w = 62 from fun e => hwy (Or.inr ((hw.eq (c := 62) (by decide)).mp e))), if_neg (show ¬ w = 60 from fun e => hwy (Or.inl ((hw.eq (c := 60) (by decide)).mp e))), wp_s, if_pos rfl, wp_s]
    exact ⟨hF5, rfl, by omega, g25⟩
  have hlt3 : p3 < min L 76 := lkp_lo (t := t) (fun e => by omega)
  simp only [hwy, not_true_eq_false, if_false]
  -- told
  have told : ∀ M6 : Mem, Fr (lnS g) M M6 → M6 25 2 = nI (p3 + 1) → M6 4 g = nI c → M6 5 g = nI (lkp t (min L 76) p1 - 118) → M6 6 g = nI z → M6 7 g = b2i (decide (lkp t (min L 76) p3 = 60) = true) → M6 8 g = 0 → wp (bd (f_X4_readTold (nI g) M6) fun r20 M21 => if r20 = 0 then some ((0 : Int32), M21) else some (1, M21)) (fun r M' => Fr (lnS g) M M' ∧ match (match dgs (lkp t (min L 76)) (p3 + 1) n 0 with
      | some f => Sum.inl f
      | none => Sum.inr ((c, lkp t (min L 76) p1 - 118, z, decide (lkp t (min L 76) p3 = 60), fun r => lkp t (min L 76) (p3 + 1 + r) - 48), p3 + 1 + n) : Sum Nat (Fld × Nat)) with
      | .inl f => r = 0 ∧ f ≤ 100 ∧ M' 25 2 = nI f
      | .inr q => r = 1 ∧ M' 25 2 = nI q.2 ∧ q.2 ≤ min L 76 ∧ p < q.2 ∧ FlC M' n g q.1 ∧ q.1.1 ≤ 99 ∧ q.1.2.1 < 5 ∧ 1 ≤ q.1.2.2.1 ∧ q.1.2.2.1 ≤ 40 ∧ ∀ r, r < n → q.1.2.2.2.2 r ≤ 9) := by
    intro M6 hF6 k25 k4 k5 k6 k7 k8
    have key : ∀ (m r fu : Nat) (M7 : Mem), r + m = n → m < fu → (p3 + 1 + r ≤ min L 76) → Fr (fun i k => i = 25 ∧ k = 2 ∨ i = 10 + g) M6 M7 → M7 25 2 = nI (p3 + 1 + r) → (∀ j, j < r → M7 (10 + g) j = nI (lkp t (min L 76) (p3 + 1 + j) - 48)) → wp (f_X4_readTold_2 fu (nI g) (nI r) M7) (fun v M' => Fr (fun i k => i = 25 ∧ k = 2 ∨ i = 10 + g) M6 M' ∧ match dgs (lkp t (min L 76)) (p3 + 1) m r with
        | some f => v = 0 ∧ M' 25 2 = nI f
        | none => v = 1 ∧ M' 25 2 = nI (p3 + 1 + n) ∧ p3 + 1 + n ≤ min L 76 ∧ ∀ j, j < n → M' (10 + g) j = nI (lkp t (min L 76) (p3 + 1 + j) - 48)) := by
      intro m
      induction m with
      | zero =>
        intro r fu M7 hr hf hL hF7 h25' hj
        obtain ⟨fu, rfl⟩ : ∃ f', fu = f' + 1 := ⟨fu - 1, by omega⟩
        unfold f_X4_readTold_2 dgs
        rw [hF7 3 0 (by omega), hF6 3 0 (by unfold lnS; omega), h3, if_neg (nI_nlt (by omega) (by omega)), wp_s]
        rw [show r = n by omega] at h25' hj hL
        exact ⟨hF7, rfl, h25', hL, hj⟩
      | succ m ih =>
        intro r fu M7 hr hf hL hF7 h25' hj
        obtain ⟨fu, rfl⟩ : ∃ f', fu = f' + 1 := ⟨fu - 1, by omega⟩
        have tx7 : TX M7 t L 76 := (tx hF6).fr (fun i k hi => hF7 i k (by omega))
        unfold f_X4_readTold_2 dgs
        rw [hF7 3 0 (by omega), hF6 3 0 (by unfold lnS; omega), h3, if_pos (nI_lt (by omega) (by omega)), h25', tx_dig tx7 (by omega), bd_e]
        by_cases hd : isDg (lkp t (min L 76) (p3 + 1 + r)) = true
        · have hdd := isDg_i.mp hd
          have hlt : p3 + 1 + r < min L 76 := lkp_lo (t := t) (fun e => by omega)
          simp only [if_pos hd]
          rw [if_neg (nI_neq (by omega)), cg, gd6, gd_t (nI_inb (show r < 6 by omega) (by decide)), nI_clamp (show r < 2 ^ 31 by omega), wp_ml, wp_ml, wp_vl, up_row _ _ _ (show 25 ≠ 10 + g by omega), h25', nI_1, nI_1]
          refine ih (r + 1) fu _ (by omega) (by omega) (by omega) ((hF7.up (Or.inr rfl)).up (Or.inl ⟨rfl, rfl⟩)) (up_self _ _ _ _) (fun j hj2 => ?_)
          rw [up_row _ _ _ (show 10 + g ≠ 25 by omega)]
          by_cases e : j = r
          · subst e; rw [up_self]
          · rw [up_col _ _ _ e]; exact hj j (by omega)
        · simp only [if_neg hd]
          rw [if_pos trivial, wp_s]
          exact ⟨hF7, rfl, h25'⟩
    rw [wp_bd]
    unfold f_X4_readTold f_X4_readTold_0
    refine wp_mono (key n 0 FU M6 (by omega) (by show n < 2000; omega) (by omega) Fr.rf k25 (fun j hj => absurd hj (Nat.not_lt_zero j))) (fun v M8 u => ?_)
    obtain ⟨u1, u2⟩ := u
    have hF8 : Fr (lnS g) M M8 := hF6.tr (u1.mn (fun i k q => by unfold lnS; omega))
    cases ed : dgs (lkp t (min L 76)) (p3 + 1) n 0 with
    | some f =>
      rw [ed] at u2
      have hf := dgs_lt n 0 f ed
      have u2' : v = 0 ∧ M8 25 2 = nI f := u2
      rw [u2'.1, if_pos rfl, wp_s]
      exact ⟨hF8, rfl, by omega, u2'.2⟩
    | none =>
      rw [ed] at u2
      have u2' : v = 1 ∧ M8 25 2 = nI (p3 + 1 + n) ∧ p3 + 1 + n ≤ min L 76 ∧ ∀ j, j < n → M8 (10 + g) j = nI (lkp t (min L 76) (p3 + 1 + j) - 48) := u2
      obtain ⟨v1, v2, v3, v4⟩ := u2'
      rw [v1, if_neg (by decide), wp_s]
      have c8 : ∀ i, i = 4 ∨ i = 5 ∨ i = 6 ∨ i = 7 ∨ i = 8 → M8 i g = M6 i g := fun i hi => u1 i g (by omega)
      refine ⟨hF8, rfl, v2, v3, by show p < p3 + 1 + n; omega, ⟨(c8 4 (by omega)).trans k4, (c8 5 (by omega)).trans k5, (c8 6 (by omega)).trans k6, (c8 7 (by omega)).trans k7, (c8 8 (by omega)).trans k8, v4⟩, b1, by show lkp t (min L 76) p1 - 118 < 5; omega, hz1.1, hz1.2, fun r hr => ?_⟩
      have := isDg_i.mp (dgs_no n 0 ed r (Nat.zero_le _) (by omega))
      show lkp t (min L 76) (p3 + 1 + r) - 48 ≤ 9
      omega
  by_cases h60 : lkp t (min L 76) p3 = 60
  · have hwe : w = nI 60 := (hw.eq (c := 60) (by decide)).mpr h60
    rw [hwe, if_neg (by decide), if_pos (by decide), if_pos (by decide), wp_ml, wp_ml, wp_s, if_neg (by decide), up_row _ _ _ (by decide), g25, nI_1]
    exact told _ ((hF5.up (Or.inr (Or.inl ⟨by omega, rfl⟩))).up (Or.inl ⟨rfl, rfl⟩)) (up_self _ _ _ _) (by rw [up_row _ _ _ (by decide), up_row _ _ _ (by decide)]; exact g4) (by rw [up_row _ _ _ (by decide), up_row _ _ _ (by decide)]; exact g5) (by rw [up_row _ _ _ (by decide), up_row _ _ _ (by decide)]; exact g6) (by rw [up_row _ _ _ (by decide), up_self, b2i_t (by simp [h60])]) (by rw [up_row _ _ _ (by decide), up_row _ _ _ (by decide)]; exact g8)
  · have h62 : lkp t (min L 76) p3 = 62 := by omega
    have hwe : w = nI 62 := (hw.eq (c := 62) (by decide)).mpr h62
    rw [hwe, if_pos (by decide), if_neg (by decide), wp_ml, wp_ml, wp_s, if_neg (by decide), up_row _ _ _ (by decide), g25, nI_1]
    exact told _ ((hF5.up (Or.inr (Or.inl ⟨by omega, rfl⟩))).up (Or.inl ⟨rfl, rfl⟩)) (up_self _ _ _ _) (by rw [up_row _ _ _ (by decide), up_row _ _ _ (by decide)]; exact g4) (by rw [up_row _ _ _ (by decide), up_row _ _ _ (by decide)]; exact g5) (by rw [up_row _ _ _ (by decide), up_row _ _ _ (by decide)]; exact g6) (by rw [up_row _ _ _ (by decide), up_self, b2i_f (by simp [h60])]) (by rw [up_row _ _ _ (by decide), up_row _ _ _ (by decide)]; exact g8)
/-- all lines: how many, their fields; or the place of what can't stand there -/
def lns (lk : Nat → Nat) (n c L : Nat) : Nat → Nat → Nat → (Nat → Fld) → Sum Nat (Nat × (Nat → Fld))
  | 0, _, p, _ => .inl p
  | m + 1, i, p, F => if 6 ≤ c + i ∨ n = 0 then .inl p else match ln lk n p with
    | .inl f => .inl f
    | .inr q => if L ≤ q.2 then .inr (i + 1, fun j => if j = i then q.1 else F j) else if lk q.2 = 59 then lns lk n c L m (i + 1) (q.2 + 1) (fun j => if j = i then q.1 else F j) else .inl q.2
def FB (n : Nat) (F : Fld) : Prop := F.1 ≤ 99 ∧ F.2.1 < 5 ∧ 1 ≤ F.2.2.1 ∧ F.2.2.1 ≤ 40 ∧ ∀ r, r < n → F.2.2.2.2 r ≤ 9
def rowS (c : Nat) : Nat → Nat → Prop := fun i k => (i = 25 ∧ k = 2) ∨ ((i = 4 ∨ i = 5 ∨ i = 6 ∨ i = 7 ∨ i = 8) ∧ c ≤ k) ∨ (10 + c ≤ i ∧ i ≤ 15)
theorem read28 {M0 : Mem} {t : Nat → Nat} {L n c : Nat} (h : TX M0 t L 76) (hn : n ≤ 6) (h3 : M0 3 0 = nI n) (h32 : M0 3 2 = nI c) (hc : c ≤ 6) : ∀ (m i fu p : Nat) (F : Nat → Fld) (M : Mem), i + m = 7 → m < fu → p ≤ min L 76 → M 25 2 = nI p → (∀ j, j < i → c + j < 6 ∧ FlC M n (c + j) (F j) ∧ FB n (F j)) → Fr (rowS c) M0 M → wp (f_X4_read_28 fu (nI i) M) (fun r M' => Fr (rowS c) M0 M' ∧ match lns (lkp t (min L 76)) n c L m i p F with
    | .inl f => r = -1 - nI f ∧ f ≤ 100
    | .inr q => r = nI q.1 ∧ 0 < q.1 ∧ c + q.1 ≤ 6 ∧ ∀ j, j < q.1 → FlC M' n (c + j) (q.2 j) ∧ FB n (q.2 j))
  | 0, i, fu + 1, p, F, M, hi, _, hp, h25, hj, hF => by
    unfold f_X4_read_28 lns
    rw [if_pos (show 6 < nI i from nI_lt (a := 6) (by omega) (by omega)), wp_s, h25]
    exact ⟨hF, rfl, by omega⟩
  | m + 1, i, fu + 1, p, F, M, hi, hf, hp, h25, hj, hF => by
    have e30 : M 3 0 = nI n := (hF 3 0 (by unfold rowS; omega)).trans h3
    have e32 : M 3 2 = nI c := (hF 3 2 (by unfold rowS; omega)).trans h32
    unfold f_X4_read_28 f_X4_read_72 lns
    rw [if_neg (show ¬ 6 < nI i from nI_nlt (a := 6) (by omega) (by decide)), e32, e30, nI_add, wp_vl]
    by_cases h0 : n = 0
    · simp only [h0, or_true, if_true]
      rw [if_pos (by decide), wp_s, h25]
      exact ⟨hF, rfl, by omega⟩
    rw [if_neg (nI_ne0 (by omega) (by omega)), if_neg (nI_pos (by omega))]
    by_cases h6 : 6 ≤ c + i
    · simp only [h6, true_or, if_true]
      rw [if_neg (show ¬ nI (c + i) < 6 from nI_nlt (b := 6) (by omega) (by omega)), wp_s, h25]
      exact ⟨hF, rfl, by omega⟩
    have hno : ¬ (6 ≤ c + i ∨ n = 0) := by omega
    simp only [if_neg hno]
    rw [if_pos (show nI (c + i) < 6 from nI_lt (b := 6) (by omega) (by decide)), wp_bd]
    refine wp_mono (readLine_cls (h.fr (fun i k hi => hF i k (by unfold rowS; omega))) hn e30 h25 hp (show c + i < 6 by omega)) (fun r M1 q => ?_)
    obtain ⟨q1, q2⟩ := q
    have hF1 : Fr (rowS c) M0 M1 := hF.tr (q1.mn (fun a k z => by unfold lnS at z; unfold rowS; omega))
    cases el : ln (lkp t (min L 76)) n p with
    | inl f =>
      rw [el] at q2
      obtain ⟨u1, u2, u3⟩ := q2
      rw [u1, if_pos rfl, wp_s, u3]
      exact ⟨hF1, rfl, u2⟩
    | inr w =>
      rw [el] at q2
      obtain ⟨u1, u2, u3, u4, u5, u6⟩ := q2
      have tx1 : TX M1 t L 76 := h.fr (fun i k hi => hF1 i k (by unfold rowS; omega))
      obtain ⟨x, ex, hx, hx1⟩ := tx_at (p := w.2) tx1 (by omega)
      rw [u1, if_neg (by decide), u2, ex, bd_e]
      have keep : ∀ j, j < i + 1 → c + j < 6 ∧ FlC M1 n (c + j) (if j = i then w.1 else F j) ∧ FB n (if j = i then w.1 else F j) := by
        intro j hj2
        by_cases e : j = i
        · subst e; rw [if_pos rfl]; exact ⟨by omega, u5, u6⟩
        · rw [if_neg e]
          obtain ⟨v1, ⟨w1, w2, w3, w4, w5, w6⟩, v3⟩ := hj j (by omega)
          have eq : ∀ a k, (a = 4 ∨ a = 5 ∨ a = 6 ∨ a = 7 ∨ a = 8) ∧ k = c + j ∨ a = 10 + (c + j) → M1 a k = M a k := fun a k hz => q1 a k (by unfold lnS; omega)
          exact ⟨v1, ⟨(eq 4 _ (by omega)).trans w1, (eq 5 _ (by omega)).trans w2, (eq 6 _ (by omega)).trans w3, (eq 7 _ (by omega)).trans w4, (eq 8 _ (by omega)).trans w5, fun r hr => (eq _ r (by omega)).trans (w6 r hr)⟩, v3⟩
      by_cases hE : L ≤ w.2
      · rw [if_pos (hx1.mpr hE), wp_s, nI_1]
        simp only [if_pos hE]
        exact ⟨hF1, by first | rfl | trivial, by omega, by omega, fun j hj2 => (keep j hj2).2⟩
      · rw [if_neg (fun z => hE (hx1.mp z)), u2, ex, bd_e]
        simp only [if_neg hE]
        by_cases h59 : lkp t (min L 76) w.2 = 59
        · have hlt : w.2 < min L 76 := lkp_lo (t := t) (fun e => by omega)
          simp only [if_pos h59]
          rw [if_pos (show x = 59 from (hx.eq (c := 59) (by decide)).mpr h59), wp_ml, wp_vl, u2, nI_1, nI_1]
          refine read28 h hn h3 h32 hc m (i + 1) fu (w.2 + 1) _ _ (by omega) (by omega) (by omega) (up_self _ _ _ _) (fun j hj2 => ?_) (hF1.up (Or.inl ⟨rfl, rfl⟩))
          obtain ⟨v1, ⟨w1, w2, w3, w4, w5, w6⟩, v3⟩ := keep j hj2
          exact ⟨v1, ⟨by rw [up_row _ _ _ (by omega)]; exact w1, by rw [up_row _ _ _ (by omega)]; exact w2, by rw [up_row _ _ _ (by omega)]; exact w3, by rw [up_row _ _ _ (by omega)]; exact w4, by rw [up_row _ _ _ (by omega)]; exact w5, fun r hr => by rw [up_row _ _ _ (by omega)]; exact w6 r hr⟩, v3⟩
        · simp only [if_neg h59]
          rw [if_neg (show ¬ x = 59 from fun z => h59 ((hx.eq (c := 59) (by decide)).mp z)), wp_s, u2]
          exact ⟨hF1, rfl, by omega⟩
