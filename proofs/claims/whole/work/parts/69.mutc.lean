/-! off, minute, minutes -/
def RH (C : Cf) (σ : Sm) (u : Nat) (τ : Nat → Sm) (M : Mem) : Prop := HlR M C ∧ IsR C (M 175) σ ∧ PsR C M u τ
theorem RH.ge {C : Cf} {σ : Sm} {u : Nat} {τ : Nat → Sm} {M M' : Mem} (hc : C.2.1 ≤ 6) (h : RH C σ u τ M) (e : ∀ i k, 174 ≤ i → M' i k = M i k) : RH C σ u τ (up M' 174 14 0) := by
  have e2 : ∀ i k, 174 ≤ i → ¬ (i = 174 ∧ k = 14) → up M' 174 14 0 i k = M i k := fun i k hi hk => by rw [up_at, if_neg hk]; exact e i k hi
  exact ⟨h.1.eq (fun i k q => e2 i k (by unfold cHl at q; omega) (by unfold cHl at q; omega)), IsR.eq hc (fun k _ => e2 175 k (by decide) (by omega)) h.2.1, h.2.2.eq hc (e2 174 28 (by decide) (by omega)) (fun k => e2 188 k (by decide) (by omega))⟩
theorem RH.ly {C : Cf} {σ : Sm} {u : Nat} {τ : Nat → Sm} {M : Mem} (hC : COk C) (h : RH C σ u τ M) : wp (f_X11_layStays M) (fun _ M' => StR M' C ∧ RH C σ u τ M' ∧ Fr lyS M M') := by
  refine wp_mono (h.1.ly hC) (fun _ M' q => ⟨q.1, ⟨h.1.eq (fun i k z => q.2 i k (by unfold cHl at z; unfold lyS; omega)), IsR.eq hC.2.1 (fun k _ => q.2 175 k (by unfold lyS; omega)) h.2.1, h.2.2.eq hC.2.1 (q.2 174 28 (by unfold lyS; omega)) (fun k => q.2 188 k (by unfold lyS; omega))⟩, q.2⟩)
theorem RH.rem {C : Cf} {σ : Sm} {u : Nat} {τ : Nat → Sm} {M : Mem} (hC : COk C) (hu : u ≤ 12) (hT : StR M C) (h : RH C σ u τ M) : wp (f_X11_remember 175 M) (fun _ M' => StR M' C ∧ RH C σ (pu1 u) (psh σ τ) M' ∧ Fr rmS M M') := by
  refine wp_mono (remember_spec hC.2.1 hu h.2.1 h.2.2) (fun _ M' q => ⟨StR.eq (funext fun k => q.2 187 k (by unfold rmS; omega)) hT, ⟨h.1.eq (fun i k z => q.2 i k (by unfold cHl at z; unfold rmS; omega)), IsR.eq hC.2.1 (fun k _ => q.2 175 k (by unfold rmS; omega)) h.2.1, q.1⟩, q.2⟩)
theorem InvE.rh {N : Nat} {C : Cf} {σ : Sm} {M : Mem} {u : Nat} {τ : Nat → Sm} (h : InvE N C σ M) (hp : PsR C M u τ) : RH C σ u τ M := ⟨h.hl, h.2.2.2.2.2.2.2.1, hp⟩
theorem ly_lo {M M' : Mem} (h : Fr lyS M M') {i k : Nat} (hi : i < 174) : M' i k = M i k := h i k (by unfold lyS; omega)
theorem rm_lo {M M' : Mem} (h : Fr rmS M M') {i k : Nat} (hi : i < 174) : M' i k = M i k := h i k (by unfold rmS; omega)
theorem rr_lo {M M' : Mem} (h : Fr rrS M M') {i k : Nat} (hi : i < 174) : M' i k = M i k := h i k (by unfold rrS; omega)
theorem bar_0 {C : Cf} {σ : Sm} {g : Nat} (h : bar C σ g = 0) : σ.1 g = 0 ∧ ¬ σ.2.2.2.2 < C.2.2.2.2.1 g ∧ free C σ.1 (frm C g) = true := by
  unfold bar at h
  by_cases h1 : σ.1 g = 0
  · rw [if_pos h1] at h
    by_cases h2 : σ.2.2.2.2 < C.2.2.2.2.1 g
    · rw [if_pos h2] at h; exact absurd h (by decide)
    · rw [if_neg h2] at h
      by_cases h3 : free C σ.1 (frm C g) = true
      · exact ⟨h1, h2, h3⟩
      · rw [if_neg h3] at h; exact absurd h (by decide)
  · rw [if_neg h1] at h; exact absurd h (by decide)
theorem bar_neg {C : Cf} {σ : Sm} {g : Nat} (h : ¬ bar C σ g = 0) : bar C σ g < 0 := by
  unfold bar at h ⊢
  by_cases h1 : σ.1 g = 0
  · rw [if_pos h1] at h ⊢
    by_cases h2 : σ.2.2.2.2 < C.2.2.2.2.1 g
    · rw [if_pos h2]; decide
    · rw [if_neg h2] at h ⊢
      by_cases h3 : free C σ.1 (frm C g) = true
      · rw [if_pos h3] at h; exact absurd rfl h
      · rw [if_neg h3]; decide
  · rw [if_neg h1]; decide
theorem off_eq {C : Cf} {σ : Sm} {g : Nat} (hC : COk C) (hg : g < C.2.1) : off C σ g = (fs σ.1 g (frm C g), fs σ.2.1 g (C.2.2.2.2.2 g (frm C g - 1)), σ.2.2.1, σ.2.2.2.1, σ.2.2.2.2) := by
  have h0 : 0 < C.1 := hC.2.2.2.1 (by omega)
  have := frm_ok (C := C) (g := g) h0
  have := hC.1
  exact put_in (by omega)
theorem ok_off {C : Cf} {σ : Sm} {g : Nat} (hC : COk C) (hO : Ok C σ) (hg : g < C.2.1) (hb : bar C σ g = 0) : Ok C (off C σ g) := by
  obtain ⟨b1, b2, b3⟩ := bar_0 hb
  have h0 : 0 < C.1 := hC.2.2.2.1 (by omega)
  obtain ⟨m1, m2, m3, m4, m5, m6, m7, m8, m9, m10⟩ := okm_put hC hO.toM hg (Or.inl (frm_ok (g := g) h0)) b3 (fun _ => by omega)
  refine ⟨m1, m2, m3, m4, m5, m6, ?_, m8, m9, m10⟩
  show ∀ k, (off C σ g).2.2.2.1 k ≤ (off C σ g).2.2.2.2
  rw [off_eq hC hg]
  exact hO.2.2.2.2.2.2.1
theorem st_off {N : Nat} {M : Mem} (hN : N < 512) (h : Cpl N M) (x : Int32) : Both N (f_X10_off x) (f_X11_off x) M := by
  obtain ⟨⟨C, σ, hI⟩, hR⟩ := h
  obtain ⟨a1, a2, a3, a4, a5, a6, a7, a8, a9, a10, a11, ⟨lt, u, τ, p1, p2, p3⟩, a13, a14⟩ := id hI
  have c2 := a1.2.1
  have hI' := hI.C14 0
  unfold Both f_X10_off f_X10_off_0
  rcases gcase C.2.1 c2 x with ⟨g, hg, rfl⟩ | ⟨hx, _⟩
  · rw [hasG_t a1 a5 hg, bd_e, if_neg (by decide), barTo_spec a1 a5 a7 a2.toM hg (by omega), bd_e]
    by_cases hb : bar C σ g = 0
    · rw [if_pos hb, wp_bd]
      refine wp_mono (add_spec (s1 := 26) (by decide) a7 p1) (fun _ M4 q => ?_)
      obtain ⟨⟨lt', q1⟩, q2⟩ := q
      have i26 : IsC C M4 26 σ := IsC.eq (fun i k b1 b2 _ => q2 i k (by unfold psS; omega)) a7
      have m4 : CfC M4 C := a5.eq2 c2 (fun i k z => q2 i k (by unfold cHo at z; unfold psS; omega))
      rw [wp_bd]
      refine wp_mono (setOff_spec (by decide) a1 m4 i26 a2.toM hg (by have := (bar_0 hb).1; omega)) (fun _ Mc z => ?_)
      obtain ⟨z1, -, -, z2⟩ := z
      have hO' := ok_off a1 a2 hg hb
      rw [ci_ins a1 z1 hO'.toM, bd_e, bc_spec, bd_e, wp_s]
      have hF : Fr stp M Mc := (ps_stp q2).tr (st_stp z2)
      have ge : ∀ i k, 174 ≤ i → Mc i k = M i k := fun i k hi => (z2 i k (by unfold stS; omega)).trans (q2 i k (by unfold psS; omega))
      have r0 := RH.ge c2 (hI.rh p2) ge
      unfold f_X11_off f_X11_off_0
      rw [wp_ml, ri_refuses a1 r0.1.1 a2.toM r0.2.1 rfl (by omega) hg, bd_e, hb, if_neg (by decide), wp_bd]
      refine wp_mono (r0.ly a1) (fun _ M5 w => ?_)
      obtain ⟨w1, w2, w3⟩ := w
      rw [wp_bd]
      refine wp_mono (w2.rem a1 p1.2.1 w1) (fun _ M6 v => ?_)
      obtain ⟨v1, v2, v3⟩ := v
      rw [wp_bd]
      refine wp_mono (ri_goOff a1 v2.1.1 v1 (Or.inl rfl) v2.2.1 hg) (fun _ Mr s => ?_)
      obtain ⟨s1, s2⟩ := s
      have s3 : IsR C (Mr 175) (off C σ g) := by
        show IsRt C (Mr 175) (off C σ g) (off C σ g).2.2.2.2
        rw [show (off C σ g).2.2.2.2 = σ.2.2.2.2 by rw [off_eq a1 hg]]
        exact s1
      have n74 : ∀ i k, i ≠ 175 → Mr i k = M6 i k := fun i k hi => s2 i k hi
      have mr : CfR Mr C := v2.1.1.eq2 (fun i k z => n74 i k (by unfold cHo at z; omega))
      rw [ri_ins a1 mr hO'.toM s3 rfl, bd_e, bc_spec, bd_e, wp_s]
      have lo : ∀ i k, i < 174 → Mr i k = Mc i k := fun i k hi => by rw [n74 i k (by omega), rm_lo v3 hi, ly_lo w3 hi, up_row _ _ _ (by omega)]
      refine ⟨rfl, ⟨C, off C σ g, mut_fin hI hN p3 hF ((((s0_stp fr14).tr (s0_stp (ly_s0 w3))).tr (rm_stp v3)).tr (s2.mn (fun i k q => Or.inr (Or.inr (Or.inl q))))) lo z1 (q1.eq (fun i k b1 b2 => z2 i k (by unfold stS; omega))) s3 (v2.2.2.eq c2 (n74 174 28 (by decide)) (fun k => n74 188 k (by decide))) hO' ?_⟩, ?_⟩
      · rw [off_eq a1 hg]; show σ.2.2.2.2 ≤ _; omega
      · refine row_lo hR ((z2 0 16 (by unfold stS; omega)).trans (q2 0 16 (by unfold psS; omega))) (fun k => (z2 173 k (by unfold stS; omega)).trans (q2 173 k (by unfold psS; omega))) lo ?_ (fun k => ?_)
        · rw [n74 174 13 (by decide), v3 174 13 (by unfold rmS; omega), w3 174 13 (by unfold lyS; omega), up_col _ _ _ (by decide)]; exact ge 174 13 (by decide)
        · rw [n74 184 k (by decide), v3 184 k (by unfold rmS; omega), w3 184 k (by unfold lyS; omega), up_row _ _ _ (by decide)]; exact ge 184 k (by decide)
    · rw [if_neg hb, wp_s]
      unfold f_X11_off f_X11_off_0
      rw [wp_ml, ri_refuses a1 hI'.2.2.2.2.2.1 a2.toM hI'.2.2.2.2.2.2.2.1 rfl (by omega) hg, bd_e, if_pos (bar_neg hb), wp_s]
      exact ⟨rfl, q_same hI hN hR fr14⟩
  · rw [hasG_f a5 hx, bd_e, if_pos rfl, wp_s]
    unfold f_X11_off f_X11_off_0 f_X11_refusesOff f_X11_refusesOff_0
    rw [wp_ml, isG_f a1 hI'.2.2.2.2.2.1 hx, bd_e, if_pos rfl, bd_e, if_pos (by decide), wp_s]
    exact ⟨rfl, q_same hI hN hR fr14⟩
theorem mid_ok {C : Cf} {σ : Sm} (hC : COk C) (hO : Ok C σ) : OkM C (mid C σ).1 := okm_run hC 36 (p := (dec σ, fun _ => false)) (okm_dec hO.toM)
theorem st_minute {N : Nat} {M : Mem} (hN : N < 512) (h : Cpl N M) : Both N f_X10_minute f_X11_minute M := by
  obtain ⟨⟨C, σ, hI⟩, hR⟩ := h
  obtain ⟨a1, a2, a3, a4, a5, a6, a7, a8, a9, a10, a11, ⟨lt, u, τ, p1, p2, p3⟩, a13, a14⟩ := id hI
  have c2 := a1.2.1
  unfold Both f_X10_minute f_X10_minute_0
  rw [wp_bd]
  refine wp_mono (add_spec (s1 := 26) (by decide) a7 p1) (fun _ M4 q => ?_)
  obtain ⟨⟨lt', q1⟩, q2⟩ := q
  have i26 : IsC C M4 26 σ := IsC.eq (fun i k b1 b2 _ => q2 i k (by unfold psS; omega)) a7
  have m4 : CfC M4 C := a5.eq2 c2 (fun i k z => q2 i k (by unfold cHo at z; unfold psS; omega))
  rw [ci_thr a1 i26 a2.toM, bd_e, wp_bd]
  refine wp_mono (pass_spec (by decide) a1 m4 i26 a2) (fun _ M5 z => ?_)
  obtain ⟨z1, z2, z3, z4⟩ := z
  have hO' := ok_minute a1 a2
  rw [wp_bd]
  refine wp_mono (clearRow_spec M5) (fun _ M6 w => ?_)
  obtain ⟨w1, w2⟩ := w
  rw [wp_bd, w2 26 2 (by unfold rcS; omega), z2]
  refine wp_mono (tell_spec _ w1 (by decide)) (fun _ M7 v => ?_)
  obtain ⟨v1, v2⟩ := v
  rw [wp_bd, v2 26 3 (by unfold rcS; omega), w2 26 3 (by unfold rcS; omega), z3]
  refine wp_mono (tell_spec _ v1 (by show 1 < 12; decide)) (fun _ Mc s => ?_)
  obtain ⟨s1, s2⟩ := s
  have hF5 : Fr rcS M5 Mc := (w2.tr v2).tr s2
  have ic : IsC C Mc 26 (minute C σ) := IsC.eq (fun i k b1 b2 _ => hF5 i k (by unfold rcS; omega)) z1
  rw [ci_thr a1 ic hO'.toM, bd_e, bc_spec, bd_e, wp_s, bI_but]
  have hF : Fr stp M Mc := ((ps_stp q2).tr (st_stp z4)).tr (s_stp (rc_scr hF5))
  have ge : ∀ i k, 174 ≤ i → Mc i k = M i k := fun i k hi => (hF5 i k (by unfold rcS; omega)).trans ((z4 i k (by unfold stS; omega)).trans (q2 i k (by unfold psS; omega)))
  have r0 := RH.ge c2 (hI.rh p2) ge
  unfold f_X11_minute f_X11_minute_0
  rw [wp_ml, wp_bd]
  refine wp_mono (r0.ly a1) (fun _ N5 w => ?_)
  obtain ⟨y1, y2, y3⟩ := w
  rw [wp_bd]
  refine wp_mono (y2.rem a1 p1.2.1 y1) (fun _ N6 v => ?_)
  obtain ⟨x1, x2, x3⟩ := v
  rw [wp_bd]
  refine wp_mono (gm_spec (Or.inl rfl) a1 x2.1.1 x1 x2.2.1 a2) (fun _ N7 s => ?_)
  obtain ⟨t1, t2, t3, t4, t5⟩ := s
  rw [wp_ml]
  obtain ⟨e1, e2⟩ := rowr0 N7
  rw [wp_bd, up_col _ _ _ (by decide), t2]
  refine wp_mono (tellr_spec _ e1 (by decide)) (fun _ N8 f => ?_)
  obtain ⟨f1, f2⟩ := f
  rw [wp_bd, f2 174 31 (by unfold rrS; omega), up_col _ _ _ (by decide), t3]
  refine wp_mono (tellr_spec _ f1 (by show 1 < 16; decide)) (fun _ Mr g => ?_)
  obtain ⟨g1, g2⟩ := g
  have hrr : Fr rrS N7 Mr := (e2.tr f2).tr g2
  rw [hrr 174 32 (by unfold rrS; omega), t4, bc_spec, bd_e, wp_s]
  have lo : ∀ i k, i < 174 → Mr i k = Mc i k := fun i k hi => by rw [rr_lo hrr hi, t5 i k (by unfold mnS; omega), rm_lo x3 hi, ly_lo y3 hi, up_row _ _ _ (by omega)]
  refine ⟨rfl, ⟨C, minute C σ, mut_fin hI hN p3 hF (((((s0_stp fr14).tr (s0_stp (ly_s0 y3))).tr (rm_stp x3)).tr (mn_stp t5)).tr (s_stp (rr_scr hrr))) lo ic (q1.eq (fun i k b1 b2 => (hF5 i k (by unfold rcS; omega)).trans (z4 i k (by unfold stS; omega)))) (IsR.eq c2 (fun k _ => hrr 175 k (by unfold rrS; omega)) t1) (x2.2.2.eq c2 ((hrr 174 28 (by unfold rrS; omega)).trans (t5 174 28 (by unfold mnS; omega))) (fun k => (hrr 188 k (by unfold rrS; omega)).trans (t5 188 k (by unfold mnS; omega)))) hO' (by rw [minute_now]; omega)⟩, ?_⟩
  exact rowE (l := [] ++ [bI (mid C σ).2] ++ [bI (wtb (mid C σ).1)]) (by show 2 ≤ 12; decide) (s1.fr (lo 0 16 (by decide)) (funext fun k => lo 173 k (by decide))) g1
