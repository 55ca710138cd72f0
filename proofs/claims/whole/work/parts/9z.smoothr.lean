/-! smooth: the reference, and both -/
def srF : Nat → Nat → Prop := fun i k => (192 ≤ i ∧ i ≤ 195) ∨ (i = 174 ∧ (k = 37 ∨ k = 41))
theorem sr_s0 {M M' : Mem} (h : Fr srF M M') : Fr scr0 M M' := h.mn (fun i k q => by
  rcases q with q | q
  · exact s0_9x (by omega)
  · exact s0_74 (by omega))
theorem sr_keep {C : Cf} {M M' : Mem} (hF : Fr srF M M') (a : CfR M C) (b : StR M C) : CfR M' C ∧ StR M' C := ⟨CfR.eq (hF 174 1 (by unfold srF; omega)) (hF 174 3 (by unfold srF; omega)) (fun i k _ _ => hF i k (by unfold srF; omega)) a, StR.eq (funext fun k => hF 187 k (by unfold srF; omega)) b⟩
section SmR
variable {C : Cf} {l : List Nat} {K89 : Int32 → Int32 → Mem → Option (Int32 × Mem)} {x3 : Int32} {Q : Int32 → Mem → Prop}
theorem sm100 (hC : COk C) (hl : ∀ g, g ∈ l → g < C.2.1) : ∀ (m k n a : Nat) (M : Mem), k + m = l.length → m < n → a ≤ 1200 → CfR M C → StR M C → OrR M l → (∀ j, j < k → M 194 j = nI (soff C l j)) → (∀ M', CfR M' C → StR M' C → OrR M' l → (∀ j, j < l.length → M' 194 j = nI (soff C l j)) → Fr (fun i k => i = 194 ∨ (i = 174 ∧ k = 41)) M M' → wp (if nI (foldF (smM C l) m k a) < x3 then f_X11_smooth_199 K89 FU (nI (foldF (smM C l) m k a)) 0 M' else f_X11_smooth_242 K89 x3 M') Q) → wp (f_X11_smooth_100 K89 n x3 (nI a) (nI k) M) Q
  | 0, k, n + 1, a, M, he, _, ha, hM, hT, hq, hs, hk => by
    have h6 := hq.1
    unfold f_X11_smooth_100
    rw [hq.2.1, if_neg (nI_nlt (by omega) (by omega))]
    exact hk M hM hT hq (fun j hj => hs j (by omega)) Fr.rf
  | m + 1, k, n + 1, a, M, he, hn, ha, hM, hT, hq, hs, hk => by
    have h6 := hq.1
    have hkl : k < l.length := by omega
    have hg := hl _ (ga_mem hkl)
    have s1 := soff_le hC l k
    have w1 := whl_le hC (ga l k)
    have fin : ∀ M1, CfR M1 C → StR M1 C → OrR M1 l → (∀ j, j < k → M1 194 j = nI (soff C l j)) → Fr (fun i k => i = 194 ∨ (i = 174 ∧ k = 41)) M M1 → wp (f_X11_smooth_154 K89 (f_X11_smooth_100 K89 n) x3 (nI a) (nI k) (nI k) (nI (soff C l k)) M1) Q := by
      intro M1 hM1 hT1 hq1 hs1 hF1
      unfold f_X11_smooth_154
      rw [gd_t (nI_inb (show k < 6 by omega) (by decide)), nI_clamp (by omega), wp_ml, gd_t (nI_inc (show k < 6 by omega) (by decide)), gd_t (nI_inc (show k < 6 by omega) (by decide))]
      have hF2 : Fr (fun i k => i = 194 ∨ (i = 174 ∧ k = 41)) M1 (up M1 194 k (nI (soff C l k))) := Fr.up (S := fun i k => i = 194 ∨ (i = 174 ∧ k = 41)) Fr.rf (Or.inl rfl)
      have hF2' : Fr srF M1 (up M1 194 k (nI (soff C l k))) := hF2.mn (fun i k z => by unfold srF; omega)
      obtain ⟨hM2, hT2⟩ := sr_keep hF2' hM1 hT1
      have hq2 : OrR (up M1 194 k (nI (soff C l k))) l := hq1.eq (hF2 174 37 (by omega)) (fun j => hF2 192 j (by omega))
      have a1 : up M1 194 k (nI (soff C l k)) 192 k = nI (ga l k) := Ar_ga hq2.2.2 hkl
      have a4 : up M1 194 k (nI (soff C l k)) 194 k = nI (soff C l k) := up_self _ _ _ _
      have hs2 : ∀ j, j < k + 1 → up M1 194 k (nI (soff C l k)) 194 j = nI (soff C l j) := by
        intro j hj
        by_cases z : j = k
        · subst z; exact a4
        · rw [up_col _ _ _ z]; exact hs1 j (by omega)
      rw [a1, r_whole hC hM2 hT2 hg, bd_e, a4, nI_add]
      have e : (if nI a < nI (soff C l k + whl C (ga l k)) then nI (soff C l k + whl C (ga l k)) else nI a) = nI (smM C l k a) := by
        unfold smM
        by_cases z : a < soff C l k + whl C (ga l k)
        · rw [if_pos (nI_lt z (by omega)), if_pos z]
        · rw [if_neg (nI_nlt (by omega) (by omega)), if_neg z]
      rw [e, wp_vl, wp_vl, nI_1]
      exact sm100 hC hl m (k + 1) n (smM C l k a) _ (by omega) (by omega) (sm_le hC l (by omega) ha) hM2 hT2 hq2 hs2 (fun M' b1 b2 b3 b4 b5 => hk M' b1 b2 b3 b4 ((hF1.tr hF2).tr b5))
    unfold f_X11_smooth_100
    rw [hq.2.1, if_pos (nI_lt hkl (by omega))]
    by_cases z : k = 0
    · subst z
      rw [if_pos (show nI 0 = 0 from rfl)]
      exact fin M hM hT hq (fun j hj => absurd hj (Nat.not_lt_zero j)) Fr.rf
    · have a0 : M 192 (k - 1) = nI (ga l (k - 1)) := Ar_ga hq.2.2 (show k - 1 < l.length by omega)
      have a1 : M 192 k = nI (ga l k) := Ar_ga hq.2.2 hkl
      have hg0 := hl _ (ga_mem (show k - 1 < l.length by omega))
      rw [if_neg (show ¬ nI k = 0 from fun w => z ((nI_eq (b := 0) (by omega) (by decide)).mp w)), nI_sub1 (by omega), gd_t (nI_inb (show k - 1 < 6 by omega) (by decide)), gd_t (nI_inb (show k - 1 < 6 by omega) (by decide)), gd_t (nI_inb (show k < 6 by omega) (by decide)), nI_clamp (show k < 2 ^ 31 by omega), nI_clamp (show k - 1 < 2 ^ 31 by omega), a0, a1, wp_bd]
      refine wp_mono (r_gap hC hM hT hg0 hg) (fun r M1 w => ?_)
      obtain ⟨rfl, _, w2⟩ := w
      have w3 : Fr (fun i k => i = 194 ∨ (i = 174 ∧ k = 41)) M M1 := w2.mn (fun i k y => Or.inr y)
      have w4 : Fr srF M M1 := w2.mn (fun i k y => by unfold g41 at y; unfold srF; omega)
      obtain ⟨hM1, hT1⟩ := sr_keep w4 hM hT
      have e : M 194 (k - 1) + gapV C (ga l (k - 1)) (ga l k) = nI (soff C l k) := by
        rw [hs (k - 1) (by omega), (gap_n hC _ _).2, nI_add]
        obtain ⟨j, rfl⟩ : ∃ j, k = j + 1 := ⟨k - 1, by omega⟩
        rfl
      rw [e]
      exact fin M1 hM1 hT1 (hq.eq (w2 174 37 (by unfold g41; omega)) (fun j => w2 192 j (by unfold g41; omega))) (fun j hj => (w2 194 j (by unfold g41; omega)).trans (hs j hj)) w3
theorem sm199 {y : Int32} : ∀ (m k n : Nat) (M : Mem), k + m = l.length → m < n → OrR M l → (∀ j, j < l.length → M 194 j = nI (soff C l j)) → (∀ j, j < k → M 193 j = M 192 j ∧ M 195 j = M 194 j) → (∀ M', Ar (M' 193) l → (∀ j, j < l.length → M' 195 j = nI (soff C l j)) → Fr (fun i _ => i = 193 ∨ i = 195) M M' → wp (f_X11_smooth_242 K89 y M') Q) → wp (f_X11_smooth_199 K89 n y (nI k) M) Q
  | 0, k, n + 1, M, he, _, hq, hs, hk, hc => by
    have h6 := hq.1
    unfold f_X11_smooth_199
    rw [hq.2.1, if_neg (nI_nlt (by omega) (by omega))]
    refine hc M (fun j g e => ?_) (fun j hj => by rw [(hk j (by omega)).2]; exact hs j hj) Fr.rf
    have hj : j < l.length := by
      apply Classical.byContradiction
      intro z
      rw [List.getElem?_eq_none (by omega)] at e; cases e
    rw [(hk j (by omega)).1]
    exact hq.2.2 j g e
  | m + 1, k, n + 1, M, he, hn, hq, hs, hk, hc => by
    have h6 := hq.1
    unfold f_X11_smooth_199
    rw [hq.2.1, if_pos (nI_lt (by omega) (by omega)), gd_t (nI_inb (show k < 6 by omega) (by decide)), gd_t (nI_inb (show k < 6 by omega) (by decide)), nI_clamp (by omega), wp_ml, gd_t (nI_inc (show k < 6 by omega) (by decide)), gd_t (nI_inc (show k < 6 by omega) (by decide)), wp_ml, wp_vl, nI_1]
    have hF : Fr (fun i _ => i = 193 ∨ i = 195) M (up (up M 193 k (M 192 k)) 195 k (up M 193 k (M 192 k) 194 k)) := Fr.up (S := fun i _ => i = 193 ∨ i = 195) (Fr.up (S := fun i _ => i = 193 ∨ i = 195) Fr.rf (Or.inl rfl)) (Or.inr rfl)
    refine sm199 m (k + 1) n _ (by omega) (by omega) (hq.eq (hF 174 37 (by omega)) (fun j => hF 192 j (by omega))) (fun j hj => (hF 194 j (by omega)).trans (hs j hj)) (fun j hj => ?_) (fun M' h1 h2 h3 => hc M' h1 h2 (hF.tr h3))
    rw [hF 192 j (by omega), hF 194 j (by omega)]
    by_cases z : j = k
    · subst z
      exact ⟨by rw [up_row _ _ _ (by decide), up_self], by rw [up_self, up_row _ _ _ (by decide)]⟩
    · obtain ⟨h1, h2⟩ := hk j (by omega)
      exact ⟨by rw [up_row _ _ _ (by decide), up_col _ _ _ z]; exact h1, by rw [up_col _ _ _ z, up_row _ _ _ (by decide)]; exact h2⟩
end SmR
def SRb (C : Cf) (p : Nat → Bool) (s : SSt) (M : Mem) : Prop := ∀ x, s = some x → Ar (M 193) x.2 ∧ ∀ j, j < x.2.length → M 195 j = nI (soff C x.2 j)
theorem smooth_ref {C : Cf} {p : Nat → Bool} {M : Mem} {Q : Int32 → Mem → Prop} (hC : COk C) (hp : Thn C p) (hM : CfR M C) (hT : StR M C) (hQ : ∀ M' x, SmS C p = some x → SRb C p (some x) M' → M' 174 37 = nI x.2.length → Fr srF M M' → wp (f_X11_smooth_259 FU (nI x.1) 0 (up M' 174 13 0)) Q) : wp (bd (f_X11_firstOrder (bI p) M) fun _ M15 => f_X11_smooth_89 FU 1000000 1 M15) Q := by
  have c2 := hC.2.1
  rw [wp_bd]
  refine wp_mono (beg_ref hC hM hp.1) (fun _ M1 q => ?_)
  obtain ⟨q1, q2⟩ := q
  have f1 : Fr srF M M1 := q2.mn (fun i k z => by unfold foS at z; unfold srF; omega)
  obtain ⟨g1, g2⟩ := sr_keep f1 hM hT
  refine ord_loopR (fun n s mo M => f_X11_smooth_89 n (sR s) mo M) (smS C) (fun s l M' => CfR M' C ∧ StR M' C ∧ OrR M' l ∧ InO p l ∧ sok p s ∧ SRb C p s M' ∧ Fr srF M M') (fun s M' => sok p s ∧ SRb C p s M' ∧ M' 174 37 = nI (fl p 6).length ∧ Fr srF M M') Q (SmS C p) (fun n s l M2 hJ k0 k1 => ?_) (fun n M2 hJ => ?_) 720 FU (fl p 6) none M1 (by decide) (ends_fl p) rfl ⟨g1, g2, q1, List.Perm.refl _, (fun x e => by cases e), (fun x e => by cases e), f1⟩
  · obtain ⟨j1, j2, j3, j4, j5, j6, j7⟩ := hJ
    have h6 := io_len j4
    have hlen := j4.length_eq
    have hv : smV C l ≤ 1200 := smF_le hC l l.length 0 0 (by omega) (by omega)
    have fin : ∀ (s' : SSt) (M3 : Mem), s' = smS C s l → CfR M3 C → StR M3 C → OrR M3 l → SRb C p s' M3 → Fr srF M M3 → wp (f_X11_smooth_242 (f_X11_smooth_89 n) (sR s') M3) Q := by
      intro s' M3 e b1 b2 b3 b4 b5
      have b0 : sok p s' := by rw [e]; exact sok_s hC j4 j5
      unfold f_X11_smooth_242
      rw [wp_bd]
      refine wp_mono (turn_ref b3 (fun g hg => ((io_mem j4).mp hg).1) (thn_ne hC hp j4)) (fun r M4 w => ?_)
      rcases w with ⟨v1, rfl, rfl⟩ | ⟨q, l', v1, rfl, v3, v4⟩
      · rw [e]
        exact k0 _ v1 (by rw [← e]; exact ⟨b0, b4, by rw [b3.2.1, hlen], b5⟩)
      · have f4 : Fr srF M3 M4 := v4.mn (fun i k z => by unfold noS at z; unfold srF; omega)
        obtain ⟨y1, y2⟩ := sr_keep f4 b1 b2
        rw [e]
        exact k1 q l' M4 v1 (by rw [← e]; exact ⟨y1, y2, v3, io_next j4 v1, b0, fun x ex => ⟨fun j g eg => (v4 193 j (by unfold noS; omega)).trans ((b4 x ex).1 j g eg), fun j hj => (v4 195 j (by unfold noS; omega)).trans ((b4 x ex).2 j hj)⟩, b5.tr f4⟩)
    show wp (f_X11_smooth_89 (n + 1) (sR s) 1 M2) Q
    unfold f_X11_smooth_89
    rw [if_neg (by decide)]
    refine sm100 hC (thn_l hp j4) l.length 0 FU 0 M2 (by omega) (by show l.length < 2000; omega) (by omega) j1 j2 j3 (fun j hj => absurd hj (Nat.not_lt_zero j)) (fun M3 b1 b2 b3 b4 b5 => ?_)
    have f3 : Fr srF M2 M3 := b5.mn (fun i k z => by unfold srF; omega)
    show wp (if nI (smV C l) < sR s then f_X11_smooth_199 (f_X11_smooth_89 n) FU (nI (smV C l)) 0 M3 else f_X11_smooth_242 (f_X11_smooth_89 n) (sR s) M3) Q
    have upd : smS C s l = some (smV C l, l) → wp (f_X11_smooth_199 (f_X11_smooth_89 n) FU (nI (smV C l)) 0 M3) Q := by
      intro e
      refine sm199 (C := C) (l := l) l.length 0 FU M3 (by omega) (by show l.length < 2000; omega) b3 b4 (fun j hj => absurd hj (Nat.not_lt_zero j)) (fun M4 h1 h2 h3 => ?_)
      have f4 : Fr srF M3 M4 := h3.mn (fun i k z => by unfold srF; omega)
      obtain ⟨y1, y2⟩ := sr_keep f4 b1 b2
      exact fin (some (smV C l, l)) M4 e.symm y1 y2 (b3.eq (h3 174 37 (by omega)) (fun j => h3 192 j (by omega))) (fun x ex => by cases ex; exact ⟨h1, h2⟩) ((j7.tr f3).tr f4)
    have keepS : SRb C p s M3 := fun x ex => ⟨fun j g eg => (b5 193 j (by omega)).trans ((j6 x ex).1 j g eg), fun j hj => (b5 195 j (by omega)).trans ((j6 x ex).2 j hj)⟩
    cases s with
    | none =>
      rw [show sR none = 1000000 from rfl, if_pos (show nI (smV C l) < 1000000 from nI_lt (b := 1000000) (by omega) (by decide))]
      exact upd rfl
    | some x =>
      have hx := (j5 x rfl).1
      have eS : smS C (some x) l = if smV C l < x.1 then some (smV C l, l) else some x := rfl
      by_cases z : smV C l < x.1
      · rw [show sR (some x) = nI x.1 from rfl, if_pos (nI_lt z (by omega))]
        exact upd (eS.trans (if_pos z))
      · rw [if_neg (show ¬ nI (smV C l) < sR (some x) from nI_nlt (by omega) (by omega))]
        exact fin (some x) M3 (eS.trans (if_neg z)).symm b1 b2 b3 keepS (j7.tr f3)
  · show wp (f_X11_smooth_89 (n + 1) (sR (SmS C p)) 0 M2) Q
    obtain ⟨x, e⟩ := SmS_some C p
    obtain ⟨j1, j2, j3, j4⟩ := hJ
    have hx := j1 x e
    unfold f_X11_smooth_89
    rw [if_pos rfl, wp_ml, e]
    exact hQ M2 x e (by rw [← e]; exact j2) (by rw [j3, hx.2.length_eq]) j4
theorem sm259 {l : List Nat} {x3 : Int32} {Q : Int32 → Mem → Prop} (h6 : l.length ≤ 6) : ∀ (m k n : Nat) (M : Mem), k + m = l.length → m < n → M 174 37 = nI l.length → Ar (M 193) l → RwR M (rI (l.take k)) → (∀ M', RwR M' (rI l) → Fr rrS M M' → wp (f_X11_smooth_288 FU x3 0 M') Q) → wp (f_X11_smooth_259 n x3 (nI k) M) Q
  | 0, k, n + 1, M, he, _, hq, hA, hR, hc => by
    unfold f_X11_smooth_259
    rw [hq, if_neg (nI_nlt (by omega) (by omega))]
    rw [List.take_of_length_le (by omega)] at hR
    exact hc M hR Fr.rf
  | m + 1, k, n + 1, M, he, hn, hq, hA, hR, hc => by
    obtain ⟨g, g1, g2, g3, g4⟩ := get_some (l := l) (k := k) (by omega)
    unfold f_X11_smooth_259
    rw [hq, if_pos (nI_lt (by omega) (by omega)), gd_t (nI_inb (show k < 6 by omega) (by decide)), nI_clamp (by omega), hA k g g1, wp_bd]
    refine wp_mono (tellr_spec (nI g) hR (by rw [rI_len, List.length_take]; omega)) (fun _ M1 w => ?_)
    rw [wp_vl, nI_1]
    refine sm259 h6 m (k + 1) n M1 (by omega) (by omega) ((w.2 174 37 (by unfold rrS; omega)).trans hq) (fun j x e => (w.2 193 j (by unfold rrS; omega)).trans (hA j x e)) ?_ (fun M' u1 u2 => hc M' u1 (w.2.tr u2))
    rw [g3, rI_app]
    exact w.1
theorem sm288 {C : Cf} {l : List Nat} {x3 : Int32} {r0 : List Int32} (h6 : l.length ≤ 6) (hr : r0.length ≤ 6) : ∀ (m k n : Nat) (M : Mem), k + m = l.length → m < n → M 174 37 = nI l.length → (∀ j, j < l.length → M 195 j = nI (soff C l j)) → RwR M (r0 ++ soR C l k) → wp (f_X11_smooth_288 n x3 (nI k) M) (fun r M' => r = x3 ∧ RwR M' (r0 ++ soR C l l.length) ∧ Fr rrS M M')
  | 0, k, n + 1, M, he, _, hq, hA, hR => by
    have : k = l.length := by omega
    subst this
    unfold f_X11_smooth_288
    rw [hq, if_neg (nI_nlt (by omega) (by omega)), wp_s]
    exact ⟨rfl, hR, Fr.rf⟩
  | m + 1, k, n + 1, M, he, hn, hq, hA, hR => by
    unfold f_X11_smooth_288
    rw [hq, if_pos (nI_lt (by omega) (by omega)), gd_t (nI_inb (show k < 6 by omega) (by decide)), nI_clamp (by omega), hA k (by omega), wp_bd]
    refine wp_mono (tellr_spec (nI (soff C l k)) hR (by rw [List.length_append, soR_len]; omega)) (fun _ M1 w => ?_)
    rw [wp_vl, nI_1]
    refine wp_mono (sm288 h6 hr m (k + 1) n M1 (by omega) (by omega) ((w.2 174 37 (by unfold rrS; omega)).trans hq) (fun j hj => (w.2 195 j (by unfold rrS; omega)).trans (hA j hj)) ?_) (fun _ M2 y => ⟨y.1, y.2.1, w.2.tr y.2.2⟩)
    rw [soR_s, ← List.append_assoc]
    exact w.1
/-- one way, or both -/
def wW (f b : Bool) : Int32 := (if f = true then 1 else 0) ||| (if b = true then 2 else 0)
def wyS (C : Cf) (p : Nat → Bool) (g : Nat) (a : Bool × Bool) : Bool × Bool := if p g = true then (if C.2.2.2.1 g = true then (a.1, true) else (true, a.2)) else a
theorem wW_1 (f b : Bool) : bcn (wW f b) = 1 ↔ f ≠ b := by cases f <;> cases b <;> decide
theorem way_loop {C : Cf} {M : Mem} {p : Nat → Bool} (hC : COk C) (hM : CfC M C) : ∀ (m g n : Nat) (a : Bool × Bool), g + m = C.2.1 → m < n → f_X10_goOneWay_4 n (bI p) (wW a.1 a.2) (nI g) M = some (b2i ((foldF (wyS C p) m g a).1 ≠ (foldF (wyS C p) m g a).2), M)
  | 0, g, n + 1, a, he, _ => by
    have c2 := hC.2.1
    unfold f_X10_goOneWay_4 f_X10_goOneWay_56
    rw [hM.2.1, if_neg (nI_nlt (by omega) (by omega)), bc_spec, bd_e]
    show (if bcn (wW a.1 a.2) = 1 then _ else _) = some (b2i (a.1 ≠ a.2), M)
    by_cases z : a.1 ≠ a.2
    · rw [if_pos ((wW_1 _ _).mpr z), b2i_t z]; rfl
    · rw [if_neg (fun w => z ((wW_1 _ _).mp w)), b2i_f z]; rfl
  | m + 1, g, n + 1, a, he, hn => by
    have c2 := hC.2.1
    have hg : g < C.2.1 := by omega
    have hb : bit (bI p) (nI g) ↔ p g = true := by rw [bit_bI p (by omega)]; exact ⟨fun h => h.2, fun h => ⟨by omega, h⟩⟩
    have ih := fun a => way_loop (p := p) hC hM m (g + 1) n a (by omega) (by omega)
    unfold f_X10_goOneWay_4
    rw [hM.2.1, if_pos (nI_lt hg (by omega)), has_spec, bd_e]
    show _ = some (b2i ((foldF (wyS C p) m (g + 1) (wyS C p g a)).1 ≠ (foldF (wyS C p) m (g + 1) (wyS C p g a)).2), M)
    unfold f_X10_goOneWay_37
    by_cases z : p g = true
    · rw [b2i_t (hb.mpr z), if_neg (by decide), gd_t (nI_inb (show g < 6 by omega) (by decide)), nI_clamp (by omega), (hM.2.2.2 g hg).1]
      have e : wW a.1 a.2 ||| (1 <<< (b2i (C.2.2.2.1 g = true) &&& 31)) = wW (wyS C p g a).1 (wyS C p g a).2 := by
        unfold wyS
        rw [if_pos z]
        obtain ⟨a1, a2⟩ := a
        by_cases y : C.2.2.2.1 g = true
        · rw [b2i_t y, if_pos y]
          cases a1 <;> cases a2 <;> decide
        · rw [b2i_f y, if_neg y]
          cases a1 <;> cases a2 <;> decide
      rw [e]
      show f_X10_goOneWay_4 n (bI p) (wW (wyS C p g a).1 (wyS C p g a).2) (nI g + 1) M = _
      rw [nI_1]
      exact ih _
    · rw [b2i_f (fun w => z (hb.mp w)), if_pos rfl]
      show f_X10_goOneWay_4 n (bI p) (wW a.1 a.2) (nI g + 1) M = _
      rw [nI_1, show wyS C p g a = a from if_neg z]
      exact ih a
theorem wy_iff {C : Cf} {p : Nat → Bool} : ∀ (m g : Nat) (a : Bool × Bool), ((foldF (wyS C p) m g a).1 = true ↔ a.1 = true ∨ ∃ j, g ≤ j ∧ j < g + m ∧ p j = true ∧ C.2.2.2.1 j = false) ∧ ((foldF (wyS C p) m g a).2 = true ↔ a.2 = true ∨ ∃ j, g ≤ j ∧ j < g + m ∧ p j = true ∧ C.2.2.2.1 j = true)
  | 0, g, a => ⟨⟨Or.inl, fun h => h.elim id (fun ⟨j, h1, h2, _⟩ => by omega)⟩, ⟨Or.inl, fun h => h.elim id (fun ⟨j, h1, h2, _⟩ => by omega)⟩⟩
  | m + 1, g, a => by
    obtain ⟨i1, i2⟩ := wy_iff (C := C) (p := p) m (g + 1) (wyS C p g a)
    have e1 : (wyS C p g a).1 = true ↔ a.1 = true ∨ (p g = true ∧ C.2.2.2.1 g = false) := by
      unfold wyS
      by_cases z : p g = true
      · rw [if_pos z]
        by_cases y : C.2.2.2.1 g = true
        · rw [if_pos y]; simp [y]
        · rw [if_neg y]; simp [z, Bool.eq_false_iff.mpr y]
      · rw [if_neg z]; simp [z]
    have e2 : (wyS C p g a).2 = true ↔ a.2 = true ∨ (p g = true ∧ C.2.2.2.1 g = true) := by
      unfold wyS
      by_cases z : p g = true
      · rw [if_pos z]
        by_cases y : C.2.2.2.1 g = true
        · rw [if_pos y]; simp [y, z]
        · rw [if_neg y]; simp [y]
      · rw [if_neg z]; simp [z]
    refine ⟨i1.trans ?_, i2.trans ?_⟩
    · rw [e1]
      constructor
      · rintro ((h | h) | ⟨j, h1, h2, h3⟩)
        · exact Or.inl h
        · exact Or.inr ⟨g, Nat.le_refl _, by omega, h⟩
        · exact Or.inr ⟨j, by omega, by omega, h3⟩
      · rintro (h | ⟨j, h1, h2, h3⟩)
        · exact Or.inl (Or.inl h)
        · by_cases z : j = g
          · subst z; exact Or.inl (Or.inr h3)
          · exact Or.inr ⟨j, by omega, by omega, h3⟩
    · rw [e2]
      constructor
      · rintro ((h | h) | ⟨j, h1, h2, h3⟩)
        · exact Or.inl h
        · exact Or.inr ⟨g, Nat.le_refl _, by omega, h⟩
        · exact Or.inr ⟨j, by omega, by omega, h3⟩
      · rintro (h | ⟨j, h1, h2, h3⟩)
        · exact Or.inl (Or.inl h)
        · by_cases z : j = g
          · subst z; exact Or.inl (Or.inr h3)
          · exact Or.inr ⟨j, by omega, by omega, h3⟩
