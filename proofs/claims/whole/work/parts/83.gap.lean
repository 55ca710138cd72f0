/-! gap -/
def way (C : Cf) (g k : Nat) : Nat := if C.2.2.2.1 g = true then C.1 - 1 - k else k
theorem way_lt {C : Cf} {g k : Nat} (h : k < C.1) : way C g k < C.1 := by unfold way; split <;> omega
abbrev G3 : Type := Int32 × Int32 × Int32
def gpS (C : Cf) (a b k : Nat) (t : G3) : G3 := (if C.2.2.1 (way C a k) = true then t.1 else if t.1 < t.2.2 + nI (Sy C a (way C a k)) - t.2.1 then t.2.2 + nI (Sy C a (way C a k)) - t.2.1 else t.1, t.2.1 + nI (Sy C b (way C a k)), t.2.2 + nI (Sy C a (way C a k)))
def gapV (C : Cf) (a b : Nat) : Int32 := (foldF (gpS C a b) C.1 0 (0, 0, 0)).1
def pg (C : Cf) (a b : Nat) (G : Int32) : Nat → Nat → Int32 → Int32 → Int32
  | 0, _, _, _ => -1
  | m + 1, k, e, l => if C.2.2.1 (way C a k) = false ∧ l + nI (Sy C a (way C a k)) - e = G then nI (way C a k) else pg C a b G m (k + 1) (e + nI (Sy C b (way C a k))) (l + nI (Sy C a (way C a k)))
def plV (C : Cf) (a b : Nat) (G : Int32) : Int32 := pg C a b G C.1 0 0 0
theorem c_gap {C : Cf} {M : Mem} (hC : COk C) (hM : CfC M C) {a b : Nat} (ha : a < C.2.1) (hb : b < C.2.1) : f_X1_gapOf (nI a) (nI b) M = some (gapV C a b, M) := by
  have c1 := hC.1
  have c2 := hC.2.1
  refine (loopF (α := G3) (L := fun n t y => f_X1_gapOf_11 n (nI a) (nI b) t.1 t.2.1 t.2.2 y M) (E := fun t => some (t.1, M)) (f := gpS C a b) (N := C.1) (fun n k t hk => ?_) (fun n t => ?_) C.1 0 FU (0, 0, 0) (Nat.zero_add _) (by show C.1 < 2000; omega)).trans rfl
  · have hw := way_lt (g := a) hk
    show f_X1_gapOf_11 (n + 1) (nI a) (nI b) t.1 t.2.1 t.2.2 (nI k) M = _
    conv => lhs; unfold f_X1_gapOf_11 f_X1_gapOf_62
    have ow : f_X1_onWay (nI a) (nI k) M = some (nI (way C a k), M) := onWay_spec hC hM ha hk
    rw [hM.1, if_pos (nI_lt hk (by omega)), ow, bd_e]
    simp only [gd_t (nI_inb (show a < 6 by omega) (show 6 ≤ 1000 by decide)), gd_t (nI_inb (show b < 6 by omega) (show 6 ≤ 1000 by decide)), gd_t (nI_inb (show way C a k < 6 by omega) (show 6 ≤ 1000 by decide))]
    rw [nI_clamp (by omega), nI_clamp (by omega), nI_clamp (by omega), cStay hM ha hw, corC hM hw]
    simp only [vl, bd_e, nI_1, cStay hM hb hw]
    unfold gpS
    by_cases hc : C.2.2.1 (way C a k) = true
    · rw [b2i_t hc, if_neg (by decide), if_pos hc]
    · rw [b2i_f hc, if_pos rfl, if_neg hc]
  · show f_X1_gapOf_11 (n + 1) (nI a) (nI b) t.1 t.2.1 t.2.2 (nI C.1) M = _
    conv => lhs; unfold f_X1_gapOf_11
    rw [hM.1, if_neg (nI_nlt (Nat.le_refl _) (by omega))]
theorem c_place {C : Cf} {M : Mem} (hC : COk C) (hM : CfC M C) {a b : Nat} (ha : a < C.2.1) (hb : b < C.2.1) (G : Int32) : ∀ (m k n : Nat) (e l : Int32), k + m = C.1 → m < n → f_X1_placeOfGap_9 n (nI a) (nI b) G e l (nI k) M = some (pg C a b G m k e l, M)
  | 0, k, n + 1, e, l, h, _ => by
    have c1 := hC.1
    unfold f_X1_placeOfGap_9 pg
    rw [hM.1, if_neg (nI_nlt (by omega) (by omega))]
  | m + 1, k, n + 1, e, l, h, hn => by
    have c1 := hC.1
    have c2 := hC.2.1
    have hk : k < C.1 := by omega
    have hw := way_lt (g := a) hk
    have ow : f_X1_onWay (nI a) (nI k) M = some (nI (way C a k), M) := onWay_spec hC hM ha hk
    unfold f_X1_placeOfGap_9 f_X1_placeOfGap_62 pg
    rw [hM.1, if_pos (nI_lt hk (by omega)), ow, bd_e]
    simp only [gd_t (nI_inb (show a < 6 by omega) (show 6 ≤ 1000 by decide)), gd_t (nI_inb (show b < 6 by omega) (show 6 ≤ 1000 by decide)), gd_t (nI_inb (show way C a k < 6 by omega) (show 6 ≤ 1000 by decide))]
    rw [nI_clamp (by omega), nI_clamp (by omega), nI_clamp (by omega), cStay hM ha hw, corC hM hw]
    simp only [vl, bd_e, nI_1, cStay hM hb hw]
    have ih := c_place hC hM ha hb G m (k + 1) n (e + nI (Sy C b (way C a k))) (l + nI (Sy C a (way C a k))) (by omega) (by omega)
    by_cases hc : C.2.2.1 (way C a k) = true
    · rw [b2i_t hc, if_neg (by decide), if_neg (by rw [hc]; simp)]
      exact ih
    · rw [b2i_f hc, if_pos rfl]
      by_cases hg : l + nI (Sy C a (way C a k)) - e = G
      · rw [if_pos hg, if_pos ⟨Bool.eq_false_iff.mpr hc, hg⟩]
      · rw [if_neg hg, if_neg (fun z => hg z.2)]
        exact ih
/-- where one is after k rooms of its way -/
def pos (C : Cf) (g k : Nat) : Nat := if k < C.1 then way C g k + 1 else 10
theorem pos_nx {C : Cf} {g k : Nat} (h : k < C.1) : nx C g (way C g k + 1) = pos C g (k + 1) := by
  unfold nx pos way
  by_cases hb : C.2.2.2.1 g = true
  · rw [if_pos hb, if_pos hb, if_pos hb]
    by_cases h1 : k + 1 < C.1
    · rw [if_pos h1, if_neg (by omega)]; omega
    · rw [if_neg h1, if_pos (by omega)]
  · rw [if_neg hb, if_neg hb, if_neg hb]
    by_cases h1 : k + 1 < C.1
    · rw [if_pos h1, if_neg (by omega)]
    · rw [if_neg h1, if_pos (by omega)]
theorem pos_0 {C : Cf} {g : Nat} (h : 0 < C.1) : pos C g 0 = frm C g := by
  unfold pos frm way
  rw [if_pos h]
  split <;> omega
theorem r_next {C : Cf} {M : Mem} (hC : COk C) (hM : CfR M C) {g k : Nat} (hg : g < C.2.1) (hk : k < C.1) : f_X11_nextRoom (nI g) (nI (way C g k)) M = some (pI (pos C g (k + 1)), M) := by
  have hw := way_lt (g := g) hk
  have := ri_next hC hM hg (b := way C g k + 1) ⟨by omega, by omega⟩
  rw [pI_s, pos_nx hk] at this
  exact this
def g41 : Nat → Nat → Prop := fun i k => i = 174 ∧ k = 41
theorem g41_r {C : Cf} {M M' : Mem} (h : Fr g41 M M') (hM : CfR M C) (hT : StR M C) : CfR M' C ∧ StR M' C := ⟨CfR.eq (h 174 1 (by unfold g41; omega)) (h 174 3 (by unfold g41; omega)) (fun i k e1 e2 => h i k (by unfold g41; omega)) hM, StR.eq (funext fun k => h 187 k (by unfold g41; omega)) hT⟩
theorem r_gp2 {C : Cf} (hC : COk C) {a b : Nat} (ha : a < C.2.1) (hb : b < C.2.1) (G : Int32) : ∀ (m k n : Nat) (e l : Int32) (M : Mem), k + m = C.1 → m < n → CfR M C → StR M C → wp (f_X11_gapOf_106 n (nI a) (nI b) G l e (pI (pos C a k)) M) (fun r M' => r = G ∧ M' 174 41 = (if M 174 41 = -1 then pg C a b G m k e l else M 174 41) ∧ Fr g41 M M')
  | 0, k, n + 1, e, l, M, h, _, hM, hT => by
    unfold f_X11_gapOf_106 pg
    have e10 : pos C a k = 10 := if_neg (by omega)
    rw [e10, if_pos (by decide), wp_s]
    refine ⟨rfl, ?_, Fr.rf⟩
    split
    · assumption
    · rfl
  | m + 1, k, n + 1, e, l, M, h, hn, hM, hT => by
    have c1 := hC.1
    have c2 := hC.2.1
    have hk : k < C.1 := by omega
    have hw := way_lt (g := a) hk
    have ep : pos C a k = way C a k + 1 := if_pos hk
    unfold f_X11_gapOf_106 f_X11_gapOf_163 pg
    rw [ep, pI_s, if_neg (show ¬ nI (way C a k) = 9 from fun z => by have := (nI_eq (b := 9) (by omega) (by decide)).mp z; omega), lm6, lm6, nI_add, nI_add]
    simp only [gd_t (nI_inc (show 6 * a + way C a k < 36 by omega) (show 36 ≤ 1000 by decide)), gd_t (nI_inc (show 6 * b + way C a k < 36 by omega) (show 36 ≤ 1000 by decide)), gd_t (nI_inc (show way C a k < 6 by omega) (show 6 ≤ 1000 by decide)), nI_clamp (show 6 * a + way C a k < 2 ^ 31 by omega), nI_clamp (show 6 * b + way C a k < 2 ^ 31 by omega), nI_clamp (show way C a k < 2 ^ 31 by omega)]
    rw [rStay hT ha hw, hM.2.2.1 _ hw, wp_vl]
    have hF : Fr g41 M (up M 174 41 (nI (way C a k))) := Fr.rf.up ⟨rfl, rfl⟩
    have keep : wp (vl (e + M 187 (6 * b + way C a k)) fun v15 => bd (f_X11_nextRoom (nI a) (nI (way C a k)) M) fun r16 M17 => f_X11_gapOf_106 n (nI a) (nI b) G (l + nI (Sy C a (way C a k))) v15 r16 M17) (fun r M' => r = G ∧ M' 174 41 = (if M 174 41 = -1 then pg C a b G m (k + 1) (e + nI (Sy C b (way C a k))) (l + nI (Sy C a (way C a k))) else M 174 41) ∧ Fr g41 M M') := by
      rw [wp_vl, rStay hT hb hw, r_next hC hM ha hk, bd_e]
      exact r_gp2 hC ha hb G m (k + 1) n _ _ M (by omega) (by omega) hM hT
    by_cases hc : C.2.2.1 (way C a k) = true
    · rw [b2i_t hc, if_neg (by decide), if_neg (show ¬ (C.2.2.1 (way C a k) = false ∧ l + nI (Sy C a (way C a k)) - e = G) by rw [hc]; simp)]
      exact keep
    · rw [b2i_f hc, if_pos rfl]
      by_cases h41 : M 174 41 = -1
      · rw [if_pos h41]
        by_cases hg : l + nI (Sy C a (way C a k)) - e = G
        · rw [if_pos hg, if_pos h41, if_pos ⟨Bool.eq_false_iff.mpr hc, hg⟩, wp_ml, wp_vl, up_row _ _ _ (by decide), rStay hT hb hw, r_next hC (g41_r hF hM hT).1 ha hk, bd_e]
          refine wp_mono (r_gp2 hC ha hb G m (k + 1) n _ _ _ (by omega) (by omega) (g41_r hF hM hT).1 (g41_r hF hM hT).2) (fun r M' q => ?_)
          rw [up_self, if_neg (nI_neq (by omega))] at q
          exact ⟨q.1, q.2.1, hF.tr q.2.2⟩
        · rw [if_neg hg, if_neg (show ¬ (C.2.2.1 (way C a k) = false ∧ l + nI (Sy C a (way C a k)) - e = G) from fun z => hg z.2)]
          exact keep
      · rw [if_neg h41]
        rw [if_neg h41] at keep ⊢
        exact keep
theorem r_gp1 {C : Cf} (hC : COk C) {a b : Nat} (ha : a < C.2.1) (hb : b < C.2.1) : ∀ (m k n : Nat) (t : G3) (M : Mem), k + m = C.1 → m < n → CfR M C → StR M C → wp (f_X11_gapOf_15 n (nI a) (nI b) t.1 t.2.2 t.2.1 (pI (pos C a k)) M) (fun r M' => r = (foldF (gpS C a b) m k t).1 ∧ M' 174 41 = plV C a b (foldF (gpS C a b) m k t).1 ∧ Fr g41 M M')
  | 0, k, n + 1, t, M, h, _, hM, hT => by
    have c1 := hC.1
    have hn0 : 0 < C.1 := hC.2.2.2.1 (by omega)
    unfold f_X11_gapOf_15
    have e10 : pos C a k = 10 := if_neg (by omega)
    have hF : Fr g41 M (up M 174 41 (-1)) := Fr.rf.up ⟨rfl, rfl⟩
    rw [e10, if_pos (by decide), wp_ml, ri_first hC (g41_r hF hM hT).1 ha, bd_e, ← pos_0 hn0]
    refine wp_mono (r_gp2 hC ha hb t.1 C.1 0 FU 0 0 _ (by omega) (by show C.1 < 2000; omega) (g41_r hF hM hT).1 (g41_r hF hM hT).2) (fun r M' q => ?_)
    rw [up_self, if_pos rfl] at q
    exact ⟨q.1, q.2.1, hF.tr q.2.2⟩
  | m + 1, k, n + 1, t, M, h, hn, hM, hT => by
    have c1 := hC.1
    have c2 := hC.2.1
    have hk : k < C.1 := by omega
    have hw := way_lt (g := a) hk
    have ep : pos C a k = way C a k + 1 := if_pos hk
    unfold f_X11_gapOf_15 f_X11_gapOf_59
    rw [ep, pI_s, if_neg (show ¬ nI (way C a k) = 9 from fun z => by have := (nI_eq (b := 9) (by omega) (by decide)).mp z; omega), lm6, lm6, nI_add, nI_add]
    simp only [gd_t (nI_inc (show 6 * a + way C a k < 36 by omega) (show 36 ≤ 1000 by decide)), gd_t (nI_inc (show 6 * b + way C a k < 36 by omega) (show 36 ≤ 1000 by decide)), gd_t (nI_inc (show way C a k < 6 by omega) (show 6 ≤ 1000 by decide)), nI_clamp (show 6 * a + way C a k < 2 ^ 31 by omega), nI_clamp (show 6 * b + way C a k < 2 ^ 31 by omega), nI_clamp (show way C a k < 2 ^ 31 by omega)]
    rw [rStay hT ha hw, rStay hT hb hw, hM.2.2.1 _ hw, wp_vl, r_next hC hM ha hk]
    show wp _ (fun r M' => r = (foldF (gpS C a b) m (k + 1) (gpS C a b k t)).1 ∧ M' 174 41 = plV C a b (foldF (gpS C a b) m (k + 1) (gpS C a b k t)).1 ∧ Fr g41 M M')
    have ih := r_gp1 hC ha hb m (k + 1) n (gpS C a b k t) M (by omega) (by omega) hM hT
    have eg : gpS C a b k t = (if C.2.2.1 (way C a k) = true then t.1 else if t.1 < t.2.2 + nI (Sy C a (way C a k)) - t.2.1 then t.2.2 + nI (Sy C a (way C a k)) - t.2.1 else t.1, t.2.1 + nI (Sy C b (way C a k)), t.2.2 + nI (Sy C a (way C a k))) := rfl
    by_cases hc : C.2.2.1 (way C a k) = true
    · rw [b2i_t hc, if_neg (by decide), wp_vl, bd_e]
      rw [if_pos hc] at eg
      rw [eg] at ih ⊢
      exact ih
    · rw [b2i_f hc, if_pos rfl, wp_vl, wp_vl, bd_e]
      rw [if_neg hc] at eg
      rw [eg] at ih ⊢
      exact ih
theorem r_gap {C : Cf} {M : Mem} (hC : COk C) (hM : CfR M C) (hT : StR M C) {a b : Nat} (ha : a < C.2.1) (hb : b < C.2.1) : wp (f_X11_gapOf (nI a) (nI b) M) (fun r M' => r = gapV C a b ∧ M' 174 41 = plV C a b (gapV C a b) ∧ Fr g41 M M') := by
  have c1 := hC.1
  have hn0 : 0 < C.1 := hC.2.2.2.1 (by omega)
  unfold f_X11_gapOf f_X11_gapOf_0
  rw [ri_first hC hM ha, bd_e, ← pos_0 hn0]
  exact r_gp1 hC ha hb C.1 0 FU (0, 0, 0) M (by omega) (by show C.1 < 2000; omega) hM hT
theorem g41_s0 {M M' : Mem} (h : Fr g41 M M') : Fr scr0 M M' := h.mn (fun i k q => s0_74 (by unfold g41 at q; omega))
theorem st_gap {N : Nat} {M : Mem} (hN : N < 512) (h : Cpl N M) (x y : Int32) : Both N (f_X10_gap x y) (f_X11_gap x y) M := by
  obtain ⟨⟨C, σ, hI⟩, hR⟩ := h
  obtain ⟨a1, a2, a3, a4, a5, a6, a7, a8, a9⟩ := id hI
  have c2 := a1.2.1
  obtain ⟨m14, r14, h14⟩ := C14g (Mc := M) hI (fun _ _ _ => rfl)
  have done : Cpl (N + 1) (up M 174 14 0) := q_same hI hN hR fr14
  unfold Both f_X10_gap f_X10_gap_0 f_X10_gap_27 f_X11_gap f_X11_gap_0
  rcases gcase C.2.1 c2 x with ⟨a, ha, rfl⟩ | ⟨hx, _⟩
  rotate_left
  · rw [hasG_f a5 hx, bd_e, if_pos rfl, wp_s, wp_ml, areTwo_f1 a1 m14 hx, bd_e, if_pos rfl, wp_s]
    exact ⟨rfl, done⟩
  rw [hasG_t a1 a5 ha, bd_e, if_neg (by decide)]
  rcases gcase C.2.1 c2 y with ⟨b, hb, rfl⟩ | ⟨hy, _⟩
  rotate_left
  · rw [hasG_f a5 hy, bd_e, if_pos rfl, wp_s, wp_ml, areTwo_f2 a1 m14 ha hy, bd_e, if_pos rfl, wp_s]
    exact ⟨rfl, done⟩
  rw [hasG_t a1 a5 hb, bd_e, if_neg (by decide)]
  by_cases e : a = b
  · rw [if_pos (by rw [e]), wp_s, wp_ml, areTwo_t a1 m14 ha hb, bd_e, b2i_f (fun z => z e), if_pos rfl, wp_s]
    exact ⟨rfl, done⟩
  rw [if_neg (fun z => e ((nI_eq (by omega) (by omega)).mp z))]
  simp only [gd_t (nI_inc (show a < 6 by omega) (show 6 ≤ 1000 by decide)), gd_t (nI_inc (show b < 6 by omega) (show 6 ≤ 1000 by decide)), nI_clamp (show a < 2 ^ 31 by omega), nI_clamp (show b < 2 ^ 31 by omega)]
  rw [(a5.2.2.2 a ha).1, (a5.2.2.2 b hb).1]
  by_cases hw : C.2.2.2.1 a = C.2.2.2.1 b
  rotate_left
  · rw [if_neg (fun z => hw ((b2i_eq _ _).mp z)), wp_s, wp_ml, areTwo_t a1 m14 ha hb, bd_e, b2i_t e, if_neg (by decide), (m14.2.2.2 a ha).1, (m14.2.2.2 b hb).1, if_neg (fun z => hw ((b2i_eq _ _).mp z)), wp_s]
    exact ⟨rfl, done⟩
  rw [if_pos ((b2i_eq _ _).mpr hw), c_gap a1 a5 ha hb, bd_e, wp_bd]
  refine wp_mono (clearRow_spec M) (fun _ M6 w => ?_)
  obtain ⟨w1, w2⟩ := w
  have m6 : CfC M6 C := a5.eq2 c2 (fun i k z => w2 i k (by unfold cHo at z; unfold rcS; omega))
  unfold f_X1_placeOfGap f_X1_placeOfGap_0
  rw [show f_X1_placeOfGap_9 FU (nI a) (nI b) (gapV C a b) 0 0 0 M6 = _ from c_place a1 m6 ha hb (gapV C a b) C.1 0 FU 0 0 (by omega) (by have := a1.1; show C.1 < 2000; omega), bd_e, wp_bd]
  refine wp_mono (tell_spec _ w1 (by decide)) (fun _ Mc v => ?_)
  obtain ⟨v1, v2⟩ := v
  have hrc : Fr rcS M Mc := w2.tr v2
  have hge : ∀ i k, 174 ≤ i → Mc i k = M i k := fun i k hi => hrc i k (by unfold rcS; omega)
  obtain ⟨n14, -, -⟩ := C14g (Mc := Mc) hI hge
  rw [wp_s, wp_ml, areTwo_t a1 n14 ha hb, bd_e, b2i_t e, if_neg (by decide), (n14.2.2.2 a ha).1, (n14.2.2.2 b hb).1, if_pos ((b2i_eq _ _).mpr hw), wp_bd]
  refine wp_mono (r_aside hI hge) (fun _ N1 q => ?_)
  obtain ⟨⟨e1, e2, e3⟩, e4, e5⟩ := q
  rw [wp_bd]
  refine wp_mono (r_gap a1 e2.1 e1 ha hb) (fun r N2 f => ?_)
  obtain ⟨f1, f2, f3⟩ := f
  rw [wp_ml]
  obtain ⟨r1, r2⟩ := rowr0 N2
  rw [wp_bd, up_col _ _ _ (by decide), f2]
  refine wp_mono (tellr_spec _ r1 (by decide)) (fun _ Mr s => ?_)
  obtain ⟨s1, s2⟩ := s
  have hrr : Fr rrS N2 Mr := r2.tr s2
  rw [wp_s]
  have lo : ∀ i k, i < 174 → Mr i k = Mc i k := fun i k hi => by rw [rr_lo hrr hi, f3 i k (by unfold g41; omega), e5 i k hi]
  exact ⟨f1, q_row hI hN (((rc_scr hrc).tr (s0_scr (e4.tr (g41_s0 f3)))).tr (rr_scr hrr)) (by show 1 ≤ 12; decide) (v1.fr (lo 0 16 (by decide)) (funext fun k => lo 173 k (by decide))) s1⟩
