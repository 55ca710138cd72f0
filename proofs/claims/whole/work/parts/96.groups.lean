/-! groups -/
theorem lns_n {lk : Nat → Nat} {n c L : Nat} {q : Nat × (Nat → Fld)} : ∀ {m i p : Nat} {F : Nat → Fld}, lns lk n c L m i p F = .inr q → n ≠ 0
  | 0, i, p, F, h => by unfold lns at h; cases h
  | m + 1, i, p, F, h => by
    unfold lns at h
    intro e
    rw [if_pos (Or.inr e)] at h
    cases h
def F00 : Nat → Fld := fun _ => (0, 0, 0, false, fun _ => 0)
def gZ : Nat → Nat → Prop := fun i k => (i = 174 ∧ (k = 11 ∨ k = 14 ∨ (15 ≤ k ∧ k ≤ 19))) ∨ i = 185
def gW (c : Nat) : Nat → Nat → Prop := fun i k => gZ i k ∨ coA c i k
theorem groups_ref {M : Mem} {t : Nat → Nat} {L n c cm : Nat} (l80 : L ≤ 80) (e11 : M 174 11 = nI L) (ht : ∀ k, k < 80 → t k < 256 ∧ M 183 k = sB (t k)) (hn : n ≤ 6) (hc : c ≤ 6) (h1 : M 174 1 = nI n) (h3 : M 174 3 = nI c) (h57 : M 174 57 = nI cm) : wp (f_X11_groups M) (fun r M' => M' 174 11 = 0 ∧ if L = 0 then r = 0 ∧ Fr gZ M M' else match lns (lkp t (min L 76)) n c L 7 0 0 F00 with
    | .inl f => r = -1 - nI f ∧ Fr gZ M M'
    | .inr q => r = nI q.1 ∧ (∀ j, j < q.1 → ComR M' n (c + j) (q.2 j)) ∧ M' 174 3 = nI (c + q.1) ∧ M' 174 28 = 0 ∧ M' 174 57 = nI (cm + 1) ∧ Fr (gW c) M M') := by
  unfold f_X11_groups f_X11_groups_0 f_X11_begin f_X11_begin_0
  rw [wp_ml, up_col _ _ _ (by decide), e11, wp_bd, wp_ml, wp_ml, wp_ml, wp_ml, wp_ml, wp_s, wp_ml]
  have hF0 : Fr gZ M (up (up (up (up (up (up (up M 174 14 0) 174 15 (bc 183)) 174 16 (nI L)) 174 17 76) 174 18 0) 174 19 (-1)) 174 11 0) := ((((((Fr.rf.up (by unfold gZ; omega)).up (by unfold gZ; omega)).up (by unfold gZ; omega)).up (by unfold gZ; omega)).up (by unfold gZ; omega)).up (by unfold gZ; omega)).up (by unfold gZ; omega)
  have f11 : up (up (up (up (up (up (up M 174 14 0) 174 15 (bc 183)) 174 16 (nI L)) 174 17 76) 174 18 0) 174 19 (-1)) 174 11 0 174 11 = 0 := up_self _ _ _ _
  have f15 : up (up (up (up (up (up (up M 174 14 0) 174 15 (bc 183)) 174 16 (nI L)) 174 17 76) 174 18 0) 174 19 (-1)) 174 11 0 174 15 = bc 183 := by simp [up_at]
  have f16 : up (up (up (up (up (up (up M 174 14 0) 174 15 (bc 183)) 174 16 (nI L)) 174 17 76) 174 18 0) 174 19 (-1)) 174 11 0 174 16 = nI L := by simp [up_at]
  have f17 : up (up (up (up (up (up (up M 174 14 0) 174 15 (bc 183)) 174 16 (nI L)) 174 17 76) 174 18 0) 174 19 (-1)) 174 11 0 174 17 = nI 76 := by simp [up_at]; rfl
  have f18 : up (up (up (up (up (up (up M 174 14 0) 174 15 (bc 183)) 174 16 (nI L)) 174 17 76) 174 18 0) 174 19 (-1)) 174 11 0 174 18 = nI 0 := by simp [up_at]; rfl
  have f19 : up (up (up (up (up (up (up M 174 14 0) 174 15 (bc 183)) 174 16 (nI L)) 174 17 76) 174 18 0) 174 19 (-1)) 174 11 0 174 19 = -1 := by simp [up_at]
  generalize hM5 : up (up (up (up (up (up (up M 174 14 0) 174 15 (bc 183)) 174 16 (nI L)) 174 17 76) 174 18 0) 174 19 (-1)) 174 11 0 = M5 at *
  rw [f16]
  by_cases h0 : L = 0
  · rw [if_pos (show nI L = 0 by rw [h0]; rfl), wp_s]
    simp only [if_pos h0]
    exact ⟨f11, by first | rfl | trivial, hF0⟩
  rw [if_neg (nI_ne0 (by omega) (by omega))]
  simp only [if_neg h0]
  have hRC : RC M5 t (min L 76) := by
    refine ⟨by rw [f15]; exact bc_0 183, by rw [f15, bc_v (Or.inl rfl)]; show min L 76 ≤ 80; omega, ⟨L, 76, l80, by decide, f16, f17, rfl⟩, fun p hp => ⟨(ht p (by omega)).1, ?_⟩⟩
    rw [f15, bc_v (Or.inl rfl), hF0 183 p (by unfold gZ; omega)]
    exact (ht p (by omega)).2
  refine gr37 (t := t) (n := n) (c := c) (L := L) (M0 := M5) hn l80 (lns (lkp t (min L 76)) n c L 7 0 0 F00) (fun f M' hr hf hF => ?_) (fun q M' hr hq hcq hF hj => ?_) ((hF0 174 1 (by unfold gZ; omega)).trans h1) ((hF0 174 3 (by unfold gZ; omega)).trans h3) f16 hRC 7 0 FU 0 F00 M5 (by omega) hc (by decide) (Nat.zero_le _) Fr.rf f18 f19 (fun j hj => absurd hj (Nat.not_lt_zero j)) rfl
  · rw [hr]
    exact ⟨(hF 174 11 (by unfold gX; omega)).trans f11, rfl, hF0.tr (hF.mn (fun i k z => by unfold gX at z; unfold gZ; omega))⟩
  · rw [hr]
    have e : ∀ k, k ≠ 18 → k ≠ 19 → M' 174 k = M5 174 k := fun k a b => hF 174 k (by unfold gX; omega)
    refine wp_mono (comes_spec (cm := cm) hn hcq ((e 1 (by decide) (by decide)).trans ((hF0 174 1 (by unfold gZ; omega)).trans h1)) ((e 3 (by decide) (by decide)).trans ((hF0 174 3 (by unfold gZ; omega)).trans h3)) ((e 57 (by decide) (by decide)).trans ((hF0 174 57 (by unfold gZ; omega)).trans h57)) hj) (fun r M'' y => ?_)
    obtain ⟨y1, y2, y3, y4, y5, y6⟩ := y
    refine ⟨(y6 174 11 (by unfold coA; omega)).trans ((e 11 (by decide) (by decide)).trans f11), y1, y2, y3, y4, y5, ?_⟩
    exact (hF0.mn (fun i k z => Or.inl z)).tr ((hF.mn (fun i k z => Or.inl (by unfold gX at z; unfold gZ; omega))).tr (y6.mn (fun i k z => Or.inr z)))
theorem st_groups {N : Nat} {M : Mem} (hN : N < 512) (h : Cpl N M) : Both N f_X10_groups f_X11_groups M := by
  obtain ⟨⟨C, σ, hI⟩, hR⟩ := h
  obtain ⟨a1, a2, a3, a4, a5, a6, a7, a8, a9, a10, ⟨R, t, b1, b2, b3⟩, ⟨lt, u, τ, p1, p2, p3⟩, ⟨cm, k1, k2, k3⟩, a14⟩ := id hI
  have c1 := a1.1
  have c2 := a1.2.1
  obtain ⟨L, hTL⟩ := a9.tl
  obtain ⟨l80, e1, e2, ht⟩ := id hTL
  have ref : ∀ Mc : Mem, (∀ i k, 174 ≤ i → Mc i k = M i k) → wp (f_X11_groups Mc) (fun r M' => M' 174 11 = 0 ∧ if L = 0 then r = 0 ∧ Fr gZ Mc M' else match lns (lkp (txN M) (min L 76)) C.1 C.2.1 L 7 0 0 F00 with
      | .inl f => r = -1 - nI f ∧ Fr gZ Mc M'
      | .inr q => r = nI q.1 ∧ (∀ j, j < q.1 → ComR M' C.1 (C.2.1 + j) (q.2 j)) ∧ M' 174 3 = nI (C.2.1 + q.1) ∧ M' 174 28 = 0 ∧ M' 174 57 = nI (cm + 1) ∧ Fr (gW C.2.1) Mc M') :=
    fun Mc hge => groups_ref (t := txN M) l80 ((hge 174 11 (by decide)).trans e2) (fun k hk => ⟨(ht k hk).1, (hge 183 k (by decide)).trans (ht k hk).2.2⟩) c1 c2 ((hge 174 1 (by decide)).trans a6.1) ((hge 174 3 (by decide)).trans a6.2.1) ((hge 174 57 (by decide)).trans k2)
  -- nothing came
  have none' : ∀ Mc Mr : Mem, Mc 1 1 = 0 → Fr (fun i k => scr0 i k ∨ (i = 4 ∨ i = 5 ∨ i = 6 ∨ i = 7 ∨ i = 8) ∧ C.2.1 ≤ k ∨ (10 + C.2.1 ≤ i ∧ i ≤ 15) ∨ (i = 1 ∧ k = 1)) M Mc → Mr 174 11 = 0 → Fr gZ Mc Mr → Cpl (N + 1) Mr := by
    intro Mc Mr hz hFc h11 hFr
    have hA : ∀ i k, ¬ scr0 i k → ¬ ((i = 4 ∨ i = 5 ∨ i = 6 ∨ i = 7 ∨ i = 8) ∧ C.2.1 ≤ k ∨ (10 + C.2.1 ≤ i ∧ i ≤ 15)) → Mr i k = Mz M i k := by
      intro i k hn hn2
      by_cases g1 : i = 1 ∧ k = 1
      · obtain ⟨rfl, rfl⟩ := g1
        rw [hFr 1 1 (by unfold gZ; omega), hz]
        unfold Mz
        rw [up_row _ _ _ (by decide), up_self]
      · by_cases g2 : i = 174 ∧ k = 11
        · obtain ⟨rfl, rfl⟩ := g2
          rw [h11]
          unfold Mz
          rw [up_self]
        · rw [Mz_at M i k g1 g2, hFr i k (by unfold scr0 at hn; unfold gZ; omega)]
          refine hFc i k (fun z => ?_)
          rcases z with z | z | z | z
          · exact hn z
          · exact hn2 (Or.inl z)
          · exact hn2 (Or.inr z)
          · exact g1 z
    obtain ⟨d1, d2, d3, d4, d5, d6, d7, d8, d9, d10, d11, d12, d13, d14⟩ := hI.mz
    refine ⟨⟨C, σ, d1, d2, by omega, hN, ?_, ?_, ?_, ?_, ?_, ?_, ?_, ?_, ?_, ?_⟩, ?_⟩
    · obtain ⟨q1, q2, q3, q4⟩ := d5
      refine ⟨(hA 3 0 (by unfold scr0; omega) (by omega)).trans q1, (hA 3 2 (by unfold scr0; omega) (by omega)).trans q2, fun r hr => by rw [hA 3 1 (by unfold scr0; omega) (by omega)]; exact q3 r hr, fun g hg => ⟨(hA 7 g (by unfold scr0; omega) (by omega)).trans (q4 g hg).1, (hA 4 g (by unfold scr0; omega) (by omega)).trans (q4 g hg).2.1, fun r hr => (hA (17 + g) r (by unfold scr0; omega) (by omega)).trans ((q4 g hg).2.2 r hr)⟩⟩
    · exact CfR.eq (hA 174 1 (by unfold scr0; omega) (by omega)) (hA 174 3 (by unfold scr0; omega) (by omega)) (fun i k h1 h2 => hA i k (by unfold scr0; omega) (by omega)) d6
    · exact IsC.eq (fun i k h1 h2 h3 => hA i k (by unfold scr0; omega) (by omega)) d7
    · exact IsR.eq c2 (fun k _ => hA 175 k (by unfold scr0; omega) (by omega)) d8
    · exact d9.eq (fun i k q => hA i k (by unfold cTx at q; unfold scr0; omega) (by unfold cTx at q; omega))
    · intro g hg
      obtain ⟨v1, v2, v3, ⟨z, v4, v5, v6⟩, ⟨y, v7, v8⟩, v9⟩ := d10 g hg
      have f : ∀ i k, (i = 5 ∨ i = 6 ∨ i = 8) ∧ k = g ∨ i = 10 + g ∨ 178 ≤ i ∧ i ≤ 182 → Mr i k = Mz M i k := fun i k hi => hA i k (by unfold scr0; omega) (by omega)
      refine ⟨?_, ?_, ?_, ⟨z, v4, v5, (f 6 g (by omega)).trans v6⟩, ⟨y, v7, (f 5 g (by omega)).trans v8⟩, fun r hr => ?_⟩
      · rw [f 5 g (by omega), f 178 g (by omega)]; exact v1
      · rw [f 6 g (by omega), f 179 g (by omega)]; exact v2
      · rw [f 8 g (by omega), f 182 g (by omega)]; exact v3
      · rw [f (10 + g) r (by omega), f 181 _ (by omega)]; exact v9 r hr
    · obtain ⟨R', t', w1, w2, w3⟩ := d11
      refine ⟨R', t', w1.fr (hA 23 1 (by unfold scr0; omega) (by omega)) (fun k => hA 24 k (by unfold scr0; omega) (by omega)), w2.fr (hA 174 22 (by unfold scr0; omega) (by omega)) (fun k => hA 186 k (by unfold scr0; omega) (by omega)), fun g hg r hr => ?_⟩
      rw [w3 g hg r hr]
      unfold stV
      rw [hA 8 g (by unfold scr0; omega) (by omega), hA (10 + g) r (by unfold scr0; omega) (by omega), hA 6 g (by unfold scr0; omega) (by omega)]
    · exact d12.eq c2 (Nat.le_succ N) (fun i k q => hA i k (by unfold cPs at q; unfold scr0; omega) (by unfold cPs at q; omega))
    · exact d13.eq c2 (Nat.le_succ N) (fun i k q => hA i k (by unfold cKp at q; unfold scr0; omega) (by unfold cKp at q; omega))
    · exact d14.eq (fun i k q => hA i k (by unfold cHd at q; unfold scr0; omega) (by unfold cHd at q; omega))
    · exact row_ne hR.mz (fun i k q => hA i k (by unfold scr0; omega) (by omega))
  unfold Both f_X10_groups f_X10_groups_0 f_X4_read f_X4_read_0 f_X10_groups_47
  have q11 : up (up M 25 2 0) 1 2 76 1 1 = nI L := by rw [up_col _ _ _ (by decide), up_row _ _ _ (by decide)]; exact e1
  rw [wp_bd, wp_ml, wp_ml, q11]
  have hF2 : Fr (fun i k => (i = 25 ∧ k = 2) ∨ (i = 1 ∧ k = 2)) M (up (up M 25 2 0) 1 2 76) := (Fr.up (S := fun i k => (i = 25 ∧ k = 2) ∨ (i = 1 ∧ k = 2)) Fr.rf (Or.inl ⟨rfl, rfl⟩)).up (Or.inr ⟨rfl, rfl⟩)
  have g25 : up (up M 25 2 0) 1 2 76 25 2 = nI 0 := by rw [up_row _ _ _ (by decide), up_self]; rfl
  have g12 : up (up M 25 2 0) 1 2 76 1 2 = nI 76 := up_self _ _ _ _
  generalize hM2 : up (up M 25 2 0) 1 2 76 = M2 at *
  by_cases h0 : L = 0
  · rw [if_pos (show nI L = 0 by rw [h0]; rfl), wp_s, wp_ml, if_neg (by decide), wp_s]
    refine wp_mono (ref _ (fun i k hi => by rw [up_row _ _ _ (by omega)]; exact hF2 i k (by omega))) (fun r Mr y => ?_)
    rw [if_pos h0] at y
    exact ⟨y.2.1, none' _ Mr (up_self _ _ _ _) ((hF2.mn (fun i k z => Or.inl (by unfold scr0; omega))).up (Or.inr (Or.inr (Or.inr ⟨rfl, rfl⟩)))) y.1 y.2.2⟩
  rw [if_neg (nI_ne0 (by omega) (by omega))]
  have hTX : TX M2 (txN M) L 76 := ⟨l80, by decide, q11, g12, fun k hk => ⟨(ht k hk).1, (hF2 2 k (by omega)).trans (ht k hk).2.1⟩⟩
  refine wp_mono (read28 (c := C.2.1) hTX c1 ((hF2 3 0 (by omega)).trans a5.1) ((hF2 3 2 (by omega)).trans a5.2.1) c2 7 0 FU 0 F00 M2 (by omega) (by decide) (Nat.zero_le _) g25 (fun j hj => absurd hj (Nat.not_lt_zero j)) Fr.rf) (fun r M1 q => ?_)
  obtain ⟨q1, q2⟩ := q
  cases er : lns (lkp (txN M) (min L 76)) C.1 C.2.1 L 7 0 0 F00 with
  | inl f =>
    rw [er] at q2
    obtain ⟨q3, q4⟩ := q2
    have hneg : ¬ (0 : Int32) < -1 - nI f := by
      have key : ∀ f, f ≤ 100 → ¬ (0 : Int32) < -1 - nI f := by decide
      exact key f q4
    rw [q3, wp_ml, if_neg hneg, wp_s]
    refine wp_mono (ref _ (fun i k hi => by rw [up_row _ _ _ (by omega), q1 i k (by unfold rowS; omega)]; exact hF2 i k (by omega))) (fun r Mr y => ?_)
    rw [if_neg h0, er] at y
    exact ⟨y.2.1, none' _ Mr (up_self _ _ _ _) (((hF2.mn (fun i k z => Or.inl (by unfold scr0; omega))).tr (q1.mn (fun i k z => by
      unfold rowS at z
      rcases z with z | z | z
      · exact Or.inl (by unfold scr0; omega)
      · exact Or.inr (Or.inl z)
      · exact Or.inr (Or.inr (Or.inl z))))).up (Or.inr (Or.inr (Or.inr ⟨rfl, rfl⟩)))) y.1 y.2.2⟩
  | inr w =>
    rw [er] at q2
    obtain ⟨q3, q4, q5, q6⟩ := q2
    have hn0 := lns_n er
    obtain ⟨k, Fd⟩ := w
    have q4 : 0 < k := q4
    have q5 : C.2.1 + k ≤ 6 := q5
    have q3 : r = nI k := q3
    have q6 : ∀ j, j < k → FlC M1 C.1 (C.2.1 + j) (Fd j) ∧ FB C.1 (Fd j) := q6
    have e1c : ∀ i k', ¬ rowS C.2.1 i k' → ¬ ((i = 25 ∧ k' = 2) ∨ (i = 1 ∧ k' = 2)) → M1 i k' = M i k' := fun i k' h1 h2 => (q1 i k' h1).trans (hF2 i k' h2)
    have e32 : up M1 1 1 0 3 2 = nI C.2.1 := by rw [up_row _ _ _ (by decide), e1c 3 2 (by unfold rowS; omega) (by omega)]; exact a5.2.1
    rw [q3, wp_ml, if_pos (nIp q4 (by omega)), wp_ml, e32, nI_add, wp_bd]
    obtain ⟨wy, hw1, hw2⟩ : ∃ wy : Nat → Bool, (∀ g, g < C.2.1 → wy g = C.2.2.2.1 g) ∧ ∀ j, j < k → wy (C.2.1 + j) = (Fd j).2.2.2.1 := ⟨fun g => if g < C.2.1 then C.2.2.2.1 g else (Fd (g - C.2.1)).2.2.2.1, fun g hg => if_pos hg, fun j hj => by
      show (if C.2.1 + j < C.2.1 then C.2.2.2.1 (C.2.1 + j) else (Fd (C.2.1 + j - C.2.1)).2.2.2.1) = _
      rw [if_neg (by omega), show C.2.1 + j - C.2.1 = j by omega]⟩
    obtain ⟨cs, hs0, hs1, hs2⟩ : ∃ cs : Nat → Nat, (∀ g, cs g ≤ 99) ∧ (∀ g, g < C.2.1 → cs g = C.2.2.2.2.1 g) ∧ ∀ j, j < k → cs (C.2.1 + j) = (Fd j).1 := ⟨fun g => if g < C.2.1 then C.2.2.2.2.1 g else if g < C.2.1 + k then (Fd (g - C.2.1)).1 else 0, fun g => by
      show (if g < C.2.1 then C.2.2.2.2.1 g else if g < C.2.1 + k then (Fd (g - C.2.1)).1 else 0) ≤ 99
      by_cases y1 : g < C.2.1
      · rw [if_pos y1]; exact a1.2.2.2.2 g
      · rw [if_neg y1]
        by_cases y2 : g < C.2.1 + k
        · rw [if_pos y2]; exact (q6 (g - C.2.1) (by omega)).2.1
        · rw [if_neg y2]; decide, fun g hg => if_pos hg, fun j hj => by
      show (if C.2.1 + j < C.2.1 then C.2.2.2.2.1 (C.2.1 + j) else if C.2.1 + j < C.2.1 + k then (Fd (C.2.1 + j - C.2.1)).1 else 0) = _
      rw [if_neg (by omega), if_pos (by omega), show C.2.1 + j - C.2.1 = j by omega]⟩
    have spl : ∀ g, g < C.2.1 + k → g < C.2.1 ∨ ∃ j, j < k ∧ g = C.2.1 + j := fun g hg => by
      by_cases y : g < C.2.1
      · exact Or.inl y
      · exact Or.inr ⟨g - C.2.1, by omega, by omega⟩
    have h6 : ∀ i k', i ≠ 1 → ¬ (i = 3 ∧ k' = 2) → up (up M1 1 1 0) 3 2 (nI (C.2.1 + k)) i k' = M1 i k' := fun i k' y1 y2 => by rw [up_at, if_neg y2, up_row _ _ _ y1]
    have h611 : up (up M1 1 1 0) 3 2 (nI (C.2.1 + k)) 1 1 = 0 := by rw [up_row _ _ _ (by decide), up_self]
    have h632 : up (up M1 1 1 0) 3 2 (nI (C.2.1 + k)) 3 2 = nI (C.2.1 + k) := up_self _ _ _ _
    have h6f : Fr (fun i k' => i = 1 ∨ (i = 3 ∧ k' = 2)) M1 (up (up M1 1 1 0) 3 2 (nI (C.2.1 + k))) := fun i k' hz => h6 i k' (fun e => hz (Or.inl e)) (fun e => hz (Or.inr e))
    generalize hM6 : up (up M1 1 1 0) 3 2 (nI (C.2.1 + k)) = M6 at *
    have hway : ∀ g, g < C.2.1 + k → M6 7 g = b2i (wy g = true) := fun g hg => by
      rw [h6 7 g (by decide) (by omega)]
      rcases spl g hg with y | ⟨j, y1, rfl⟩
      · rw [e1c 7 g (by unfold rowS; omega) (by omega), hw1 g y]; exact (a5.2.2.2 g y).1
      · rw [hw2 j y1]; exact (q6 j y1).1.2.2.2.1
    have hH : HsC M6 (C.1, C.2.1 + k, C.2.2.1, wy, cs, C.2.2.2.2.2) := by
      refine ⟨?_, h632, fun r hr => ?_, hway⟩
      · rw [h6 3 0 (by decide) (by omega), e1c 3 0 (by unfold rowS; omega) (by omega)]; exact a5.1
      · rw [h6 3 1 (by decide) (by omega), e1c 3 1 (by unfold rowS; omega) (by omega)]; exact a5.2.2.1 r hr
    have hRu : RuC M6 R t := b1.fr ((h6 23 1 (by decide) (by omega)).trans (e1c 23 1 (by unfold rowS; omega) (by omega))) (fun k' => (h6 24 k' (by decide) (by omega)).trans (e1c 24 k' (by unfold rowS; omega) (by omega)))
    refine wp_mono (reckon_spec (C := (C.1, C.2.1 + k, C.2.2.1, wy, cs, C.2.2.2.2.2)) c1 q5 hH hRu) (fun _ M8 z => ?_)
    obtain ⟨z1, z2⟩ := z
    unfold f_X6_clear f_X6_clear_0
    rw [wp_bd, wp_ml, wp_s, wp_s]
    have ecl : ∀ i k', 4 ≤ i → i ≤ 15 → up M8 46 2 0 i k' = M1 i k' := fun i k' y1 y2 => by
      rw [up_row _ _ _ (by omega), z2 i k' (by unfold reS; omega)]; exact h6 i k' (by omega) (by omega)
    have ec : ∀ i k', i ≠ 1 → ¬ (i = 3 ∧ k' = 2) → ¬ (4 ≤ i ∧ i ≤ 15) → ¬ (17 ≤ i ∧ i ≤ 22) → ¬ (i = 23 ∧ 2 ≤ k') → ¬ (i = 46 ∧ k' = 2) → ¬ (i = 25 ∧ k' = 2) → up M8 46 2 0 i k' = M i k' := fun i k' y1 y2 y3 y4 y5 y6 y7 => by
      rw [up_at, if_neg y6, z2 i k' (by unfold reS; omega), h6 i k' y1 y2]
      exact e1c i k' (by unfold rowS; omega) (by omega)
    have ec11 : up M8 46 2 0 1 1 = 0 := by rw [up_row _ _ _ (by decide), z2 1 1 (by unfold reS; omega)]; exact h611
    have ec32 : up M8 46 2 0 3 2 = nI (C.2.1 + k) := by rw [up_row _ _ _ (by decide), z2 3 2 (by unfold reS; omega)]; exact h632
    have ec46 : up M8 46 2 0 46 2 = 0 := up_self _ _ _ _
    have ec17 : ∀ g, g < C.2.1 + k → ∀ r, r < C.1 → up M8 46 2 0 (17 + g) r = stV M6 (C.1, C.2.1 + k, C.2.2.1, wy, cs, C.2.2.2.2.2) R t g r := fun g hg r hr => by
      rw [up_row _ _ _ (by omega)]; exact z1 g hg r hr
    have ecb : ∀ r, up M8 46 2 0 r = up M8 46 2 0 r := fun _ => rfl
    generalize hMc : up M8 46 2 0 = Mc at *
    refine wp_mono (ref Mc (fun i k' hi => ec i k' (by omega) (by omega) (by omega) (by omega) (by omega) (by omega) (by omega))) (fun r Mr y => ?_)
    rw [if_neg h0, er] at y
    obtain ⟨y11, y1, y2, y3, y4, y5, y6⟩ := y
    have y1 : r = nI k := y1
    have y2 : ∀ j, j < k → ComR Mr C.1 (C.2.1 + j) (Fd j) := y2
    have y3 : Mr 174 3 = nI (C.2.1 + k) := y3
    have lo : ∀ i k', i < 174 → Mr i k' = Mc i k' := fun i k' hi => y6 i k' (by unfold gW gZ coA; omega)
    have e0 : ∀ i k', i ≠ 1 → ¬ (i = 3 ∧ k' = 2) → ¬ (4 ≤ i ∧ i ≤ 15) → ¬ (17 ≤ i ∧ i ≤ 22) → ¬ (i = 23 ∧ 2 ≤ k') → ¬ (i = 46 ∧ k' = 2) → ¬ (i = 25 ∧ k' = 2) → ¬ gW C.2.1 i k' → Mr i k' = M i k' := fun i k' x1 x2 x3 x4 x5 x6 x7 x8 => (y6 i k' x8).trans (ec i k' x1 x2 x3 x4 x5 x6 x7)
    -- cells of a group that was there
    have old : ∀ i g k', g < C.2.1 → (4 ≤ i ∧ i ≤ 8 ∧ k' = g) ∨ i = 10 + g → Mr i k' = M i k' := fun i g k' hg hi => by
      rw [lo i k' (by omega), ecl i k' (by omega) (by omega)]
      exact e1c i k' (by unfold rowS; omega) (by omega)
    have new : ∀ i g k', (4 ≤ i ∧ i ≤ 8 ∧ k' = g) ∨ (i = 10 + g ∧ g < 6) → Mr i k' = M1 i k' := fun i g k' hi => by
      rw [lo i k' (by omega), ecl i k' (by omega) (by omega)]
    have oldR : ∀ i k', (177 ≤ i ∧ i ≤ 180 ∨ i = 182) ∧ k' < C.2.1 ∨ i = 181 ∧ k' < 6 * C.2.1 → Mr i k' = M i k' := fun i k' hi => e0 i k' (by omega) (by omega) (by omega) (by omega) (by omega) (by omega) (by omega) (by unfold gW gZ coA; omega)
    have estV : ∀ g, g < C.2.1 + k → ∀ r, r < C.1 → Mr (17 + g) r = stV Mr (C.1, C.2.1 + k, C.2.2.1, wy, cs, C.2.2.2.2.2) R t g r := fun g hg r hr => by
      rw [lo (17 + g) r (by omega), ec17 g hg r hr]
      unfold stV
      rw [new 8 g g (by omega), new (10 + g) g r (by omega), new 6 g g (by omega), h6 8 g (by decide) (by omega), h6 (10 + g) r (by omega) (by omega), h6 6 g (by decide) (by omega)]
    obtain ⟨o1, o2, o3, o4, o5, o6, o7, o8, o9, o10⟩ := id a2
    refine ⟨y1, ⟨C' (C.1, C.2.1 + k, C.2.2.1, wy, cs, C.2.2.2.2.2) (nst Mr (C.1, C.2.1 + k, C.2.2.1, wy, cs, C.2.2.2.2.2) R t), σ, ⟨c1, q5, fun g r => (nst_ok Mr _ R t g r).1, fun _ => Nat.pos_of_ne_zero hn0, hs0⟩, ⟨o1, fun g hg => o2 g (by have hg' : C.2.1 + k ≤ g := hg; omega), o3, o4, o5, o6, o7, o8, o9, o10⟩, by omega, hN, ⟨?_, ?_, fun r hr => ?_, fun g hg => ?_⟩, ⟨?_, y3, fun r hr => ?_, fun g hg => ?_⟩, ?_, ?_, ⟨0, by decide, ?_, y11, fun k' hk => ?_⟩, fun g hg => ?_, ⟨R, t, ?_, ?_, fun g hg r hr => (nst_ok Mr _ R t g r).2⟩, ⟨lt, 0, τ, ⟨p1.1, by decide, ?_, ?_, fun j hj => absurd hj (Nat.not_lt_zero j)⟩, ⟨y4, fun j hj => absurd hj (Nat.not_lt_zero j)⟩, fun j hj => absurd hj (Nat.not_lt_zero j)⟩, ⟨cm + 1, by omega, y5, fun i hi => ?_⟩, ?_⟩, ?_⟩
    · rw [e0 3 0 (by omega) (by omega) (by omega) (by omega) (by omega) (by omega) (by omega) (by unfold gW gZ coA; omega)]; exact a5.1
    · rw [lo 3 2 (by decide)]; exact ec32
    · rw [e0 3 1 (by omega) (by omega) (by omega) (by omega) (by omega) (by omega) (by omega) (by unfold gW gZ coA; omega)]; exact a5.2.2.1 r hr
    · have hg : g < C.2.1 + k := hg
      refine ⟨?_, ?_, fun r hr => ?_⟩
      · rw [new 7 g g (by omega), ← h6 7 g (by decide) (by omega)]; exact hway g hg
      · show Mr 4 g = nI (cs g)
        rcases spl g hg with x | ⟨j, x1, rfl⟩
        · rw [old 4 g g x (by omega), hs1 g x]; exact (a5.2.2.2 g x).2.1
        · rw [new 4 (C.2.1 + j) _ (by omega), hs2 j x1]; exact (q6 j x1).1.1
      · rw [estV g hg r hr]; exact (nst_ok Mr _ R t g r).2.symm
    · rw [e0 174 1 (by omega) (by omega) (by omega) (by omega) (by omega) (by omega) (by omega) (by unfold gW gZ coA; omega)]; exact a6.1
    · rw [e0 176 r (by omega) (by omega) (by omega) (by omega) (by omega) (by omega) (by omega) (by unfold gW gZ coA; omega)]; exact a6.2.2.1 r hr
    · have hg : g < C.2.1 + k := hg
      show Mr 180 g = b2i (wy g = true) ∧ Mr 177 g = nI (cs g)
      rcases spl g hg with x | ⟨j, x1, rfl⟩
      · rw [oldR 180 g (by omega), oldR 177 g (by omega), hw1 g x, hs1 g x]; exact a6.2.2.2 g x
      · rw [hw2 j x1, hs2 j x1]; exact ⟨(y2 j x1).2.2.2.1, (y2 j x1).1⟩
    · exact IsC.eq (C := C) (fun i k' x1 x2 x3 => e0 i k' (by omega) (by omega) (by omega) (by omega) (by omega) (by omega) (by omega) (by unfold gW gZ coA; omega)) a7
    · obtain ⟨s1, s2, s3, s4, s5⟩ := id a8
      have e175 : ∀ q, (q < C.2.1) ∨ (6 ≤ q ∧ q < 6 + C.2.1) ∨ (12 ≤ q ∧ q < 12 + C.2.1) ∨ (18 ≤ q ∧ q < 18 + C.2.1) ∨ q = 24 → Mr 175 q = M 175 q := fun q hq => e0 175 q (by omega) (by omega) (by omega) (by omega) (by omega) (by omega) (by omega) (by unfold gW gZ coA; omega)
      have zg : ∀ j, σ.1 (C.2.1 + j) = 0 := fun j => o2 _ (Nat.le_add_right _ _)
      refine ⟨fun g hg => ?_, fun g hg => ?_, fun g hg => ?_, fun g hg => ?_, (e175 24 (by omega)).trans s5⟩ <;> rcases spl g hg with x | ⟨j, x1, rfl⟩
      · exact (e175 _ (by omega)).trans (s1 g x)
      · rw [zg j, (y2 j x1).2.2.2.2.2.2.1]; rfl
      · exact (e175 _ (by omega)).trans (s2 g x)
      · rw [o3 _ (by rw [zg j]; rfl), (y2 j x1).2.2.2.2.2.2.2.1]; rfl
      · exact (e175 _ (by omega)).trans (s3 g x)
      · rw [o4 _ (zg j), (y2 j x1).2.2.2.2.2.2.2.2.1]; rfl
      · exact (e175 _ (by omega)).trans (s4 g x)
      · rw [o6 _ (by rw [zg j]; decide), (y2 j x1).2.2.2.2.2.2.2.2.2]; rfl
    · rw [lo 1 1 (by decide)]; exact ec11
    · refine ⟨txN M k', (ht k' hk).1, ?_, ?_⟩
      · rw [e0 2 k' (by omega) (by omega) (by omega) (by omega) (by omega) (by omega) (by omega) (by unfold gW gZ coA; omega)]; exact (ht k' hk).2.1
      · rw [e0 183 k' (by omega) (by omega) (by omega) (by omega) (by omega) (by omega) (by omega) (by unfold gW gZ coA; omega)]; exact (ht k' hk).2.2
    · have hg : g < C.2.1 + k := hg
      rcases spl g hg with x | ⟨j, x1, rfl⟩
      · obtain ⟨v1, v2, v3, ⟨z, v4, v5, v6⟩, ⟨y, v7, v8⟩, v9⟩ := a10 g x
        refine ⟨?_, ?_, ?_, ⟨z, v4, v5, (old 6 g g x (by omega)).trans v6⟩, ⟨y, v7, (old 5 g g x (by omega)).trans v8⟩, fun r hr => ?_⟩
        · rw [old 5 g g x (by omega), oldR 178 g (by omega)]; exact v1
        · rw [old 6 g g x (by omega), oldR 179 g (by omega)]; exact v2
        · rw [old 8 g g x (by omega), oldR 182 g (by omega)]; exact v3
        · have hr : r < C.1 := hr
          rw [old (10 + g) g r x (by omega), oldR 181 _ (by omega)]; exact v9 r hr
      · obtain ⟨⟨f1, f2, f3, f4, f5, f6⟩, g1, g2, g3, g4, g5⟩ := q6 j x1
        obtain ⟨m1, m2, m3, m4, m5, m6, -⟩ := y2 j x1
        have n5 : Mr 5 (C.2.1 + j) = nI (Fd j).2.1 := (new 5 (C.2.1 + j) _ (by omega)).trans f2
        have n6 : Mr 6 (C.2.1 + j) = nI (Fd j).2.2.1 := (new 6 (C.2.1 + j) _ (by omega)).trans f3
        have n8 : Mr 8 (C.2.1 + j) = 0 := (new 8 (C.2.1 + j) _ (by omega)).trans f5
        refine ⟨n5.trans m2.symm, n6.trans m3.symm, n8.trans m5.symm, ⟨_, g3, g4, n6⟩, ⟨_, g2, n5⟩, fun r hr => ?_⟩
        have hr : r < C.1 := hr
        have n10 : Mr (10 + (C.2.1 + j)) r = nI ((Fd j).2.2.2.2 r) := (new (10 + (C.2.1 + j)) (C.2.1 + j) r (by omega)).trans (f6 r hr)
        exact ⟨n10.trans (m6 r hr).symm, _, g5 r hr, n10⟩
    · exact b1.fr (e0 23 1 (by omega) (by omega) (by omega) (by omega) (by omega) (by omega) (by omega) (by unfold gW gZ coA; omega)) (fun k' => e0 24 k' (by omega) (by omega) (by omega) (by omega) (by omega) (by omega) (by omega) (by unfold gW gZ coA; omega))
    · exact b2.fr (e0 174 22 (by omega) (by omega) (by omega) (by omega) (by omega) (by omega) (by omega) (by unfold gW gZ coA; omega)) (fun k' => e0 186 k' (by omega) (by omega) (by omega) (by omega) (by omega) (by omega) (by omega) (by unfold gW gZ coA; omega))
    · rw [e0 46 1 (by omega) (by omega) (by omega) (by omega) (by omega) (by omega) (by omega) (by unfold gW gZ coA; omega)]; exact p1.2.2.1
    · rw [lo 46 2 (by decide), ec46]; rfl
    · obtain ⟨a, z, d1, d2, d3, d4, d5⟩ := k3 i hi
      refine ⟨a, z, ?_, by omega, ?_, ?_, Or.inr ⟨?_, Or.inr (by omega)⟩⟩
      · show a ≤ C.2.1 + k + 1; omega
      · rw [e0 109 i (by omega) (by omega) (by omega) (by omega) (by omega) (by omega) (by omega) (by unfold gW gZ coA; omega)]; exact d3
      · rw [e0 203 i (by omega) (by omega) (by omega) (by omega) (by omega) (by omega) (by omega) (by unfold gW gZ coA; omega)]; exact d4
      · show a ≠ C.2.1 + k + 1; omega
    · exact HdE.eq (C := C) (fun i k' x => e0 i k' (by unfold cHd at x; omega) (by unfold cHd at x; omega) (by unfold cHd at x; omega) (by unfold cHd at x; omega) (by unfold cHd at x; omega) (by unfold cHd at x; omega) (by unfold cHd at x; omega) (by unfold cHd at x; unfold gW gZ coA; omega)) a14
    · exact row_ne hR (fun i k' x => e0 i k' (by omega) (by omega) (by omega) (by omega) (by omega) (by omega) (by omega) (by unfold gW gZ coA; omega))
