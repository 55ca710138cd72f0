/-! rule -/
def txN (M : Mem) (k : Nat) : Nat := (M 2 k).toNatClampNeg
def TL (M : Mem) (L : Nat) : Prop := L ≤ 80 ∧ M 1 1 = nI L ∧ M 174 11 = nI L ∧ ∀ k, k < 80 → txN M k < 256 ∧ M 2 k = nI (txN M k) ∧ M 183 k = sB (txN M k)
theorem TxE.tl {M : Mem} (h : TxE M) : ∃ L, TL M L := by
  obtain ⟨L, a, b, c, d⟩ := h
  refine ⟨L, a, b, c, fun k hk => ?_⟩
  obtain ⟨t, t1, t2, t3⟩ := d k hk
  have e : txN M k = t := by unfold txN; rw [t2, nI_clamp (by omega)]
  rw [e]
  exact ⟨t1, t2, t3⟩
def Mz (M : Mem) : Mem := up (up M 1 1 0) 174 11 0
theorem Mz_at (M : Mem) (i k : Nat) (h1 : ¬ (i = 1 ∧ k = 1)) (h2 : ¬ (i = 174 ∧ k = 11)) : Mz M i k = M i k := by
  unfold Mz
  rw [up_at, if_neg h2, up_at, if_neg h1]
theorem InvE.mz {N : Nat} {C : Cf} {σ : Sm} {M : Mem} (h : InvE N C σ M) : InvE N C σ (Mz M) := by
  obtain ⟨a1, a2, a3, a4, a5, a6, a7, a8, ⟨L, l1, l2, l3, l4⟩, a10, a11, a12, a13, a14⟩ := h
  have c2 := a1.2.1
  refine ⟨a1, a2, a3, a4, a5.eq2 c2 (fun i k q => Mz_at M i k (by unfold cHo at q; omega) (by unfold cHo at q; omega)), a6.eq2 (fun i k q => Mz_at M i k (by unfold cHo at q; omega) (by unfold cHo at q; omega)), IsC.eq (fun i k e1 e2 _ => Mz_at M i k (by omega) (by omega)) a7, IsR.eq c2 (fun k _ => Mz_at M 175 k (by omega) (by omega)) a8, ⟨0, by decide, ?_, ?_, fun k hk => ?_⟩, a10.eq c2 (fun i k q => Mz_at M i k (by unfold cDt at q; omega) (by unfold cDt at q; omega)), a11.eq c2 (fun i k q => Mz_at M i k (by unfold cRl at q; omega) (by unfold cRl at q; omega)), a12.eq c2 (Nat.le_refl N) (fun i k q => Mz_at M i k (by unfold cPs at q; omega) (by unfold cPs at q; omega)), a13.eq c2 (Nat.le_refl N) (fun i k q => Mz_at M i k (by unfold cKp at q; omega) (by unfold cKp at q; omega)), a14.eq (fun i k q => Mz_at M i k (by unfold cHd at q; omega) (by unfold cHd at q; omega))⟩
  · unfold Mz; rw [up_row _ _ _ (by decide), up_self]; rfl
  · unfold Mz; rw [up_self]; rfl
  · obtain ⟨t, t1, t2, t3⟩ := l4 k hk
    exact ⟨t, t1, (Mz_at M 2 k (by omega) (by omega)).trans t2, (Mz_at M 183 k (by omega) (by omega)).trans t3⟩
theorem RowE.mz {M : Mem} (h : RowE M) : RowE (Mz M) := row_ne h (fun i k q => Mz_at M i k (by omega) (by omega))
/-- the class's text, with its end told: a call has read it and emptied it -/
theorem z_same {N : Nat} {C : Cf} {σ : Sm} {M M' : Mem} (h : InvE N C σ M) (hN : N < 512) (hR : RowE M) (hF : Fr scr0 (Mz M) M') : Cpl (N + 1) M' := q_same h.mz hN hR.mz hF
def evM (M : Mem) : Nat → Int32 := fun c => if c = 99 then M 23 11 else if c = 105 then M 23 10 else if c = 111 then M 23 12 else if c = 114 then M 23 9 else if c = 115 then M 23 7 else M 23 8
/-- what is wrong with a text as a rule -/
def rlF (t : Nat → Nat) (len : Nat) : Option Nat := match shp (evR t (min len 40) (fun _ => 0)) with
  | .inl f => some f
  | .inr q => if q = len then none else some q
theorem rlF_some {t : Nat → Nat} {len : Nat} (h : rlF t len = none) : len ≤ 40 ∧ ∀ e, ∃ v, evR t len e = .inr (v, len) := by
  unfold rlF at h
  cases er : evR t (min len 40) (fun _ => 0) with
  | inl f => rw [er] at h; cases h
  | inr w =>
    rw [er] at h
    have hw := (expr_up (sumP_up (prodP_up (sgn_up (base_up 4) 40))) 0 w.1 w.2 er).2 (Nat.zero_le _)
    by_cases e : w.2 = len
    · have hl : len ≤ 40 := by omega
      refine ⟨hl, fun e' => ?_⟩
      have hm : min len 40 = len := by omega
      rw [hm] at er
      have hs := evR_shp t len (fun _ => 0) e'
      rw [er] at hs
      cases er2 : evR t len e' with
      | inl f => rw [er2] at hs; cases hs
      | inr w2 =>
        rw [er2] at hs
        have e2 : w.2 = w2.2 := Sum.inr.inj hs
        exact ⟨w2.1, by rw [← e, e2]⟩
    · have : (if w.2 = len then none else some w.2) = (none : Option Nat) := h
      rw [if_neg e] at this
      cases this
theorem fault_cls {M : Mem} {L : Nat} (hT : TL M L) (h0 : 0 < L) : wp (f_X3_faultOf M) (fun r M' => r = (match rlF (txN M) L with
    | none => -1
    | some f => nI f) ∧ (∀ f, rlF (txN M) L = some f → f < 2 ^ 30) ∧ Fr voS M M') := by
  obtain ⟨l80, e1, e2, ht⟩ := hT
  unfold f_X3_faultOf f_X3_faultOf_0 f_X3_faultOf_45
  rw [e1, if_neg (nI_ne0 h0 (by omega)), wp_ml, up_row _ _ _ (by decide), e1, wp_vl, wp_ml, up_row _ _ _ (by decide), up_row _ _ _ (by decide), e1]
  have em : (if (40 : Int32) < nI L then (40 : Int32) else nI L) = nI (min L 40) := by
    by_cases h : 40 < L
    · rw [if_pos (show (40 : Int32) < nI L from nI_lt (a := 40) h (by omega)), show min L 40 = 40 by omega]; rfl
    · rw [if_neg (show ¬ (40 : Int32) < nI L from nI_nlt (a := 40) (by omega) (by decide)), show min L 40 = L by omega]
  rw [em]
  have go : ∀ c : Int32, (c = 0 ∨ c = 1) → (c = 0 ↔ L ≤ 40) → wp (gd (c = 0 ∨ c = 1) (ml (up (up (up M 23 2 1) 23 3 (nI (min L 40))) 23 4 c) fun M7 => bd (f_X3_readAll M7) fun r8 M9 => some (M9 23 6, M9))) (fun r M' => r = (match rlF (txN M) L with
      | none => -1
      | some f => nI f) ∧ (∀ f, rlF (txN M) L = some f → f < 2 ^ 30) ∧ Fr voS M M') := by
    intro c hc hcL
    rw [gd_t hc, wp_ml, wp_bd]
    have hF : Fr voS M (up (up (up M 23 2 1) 23 3 (nI (min L 40))) 23 4 c) := ((Fr.rf.up ⟨rfl, by omega⟩).up ⟨rfl, by omega⟩).up ⟨rfl, by omega⟩
    have hLC : LC (up (up (up M 23 2 1) 23 3 (nI (min L 40))) 23 4 c) (txN M) (min L 40) (evM M) := by
      have e2' : dS (up (up (up M 23 2 1) 23 3 (nI (min L 40))) 23 4 c 23 2) = 2 := by simp [up_at]; rfl
      refine ⟨by omega, by simp [up_at], fun p hp => ?_, by simp [up_at, evM], by simp [up_at, evM], by simp [up_at, evM], by simp [up_at, evM], by simp [up_at, evM], by simp [up_at, evM]⟩
      rw [e2', up_row _ _ _ (by decide), up_row _ _ _ (by decide), up_row _ _ _ (by decide)]
      exact ⟨(ht p (by omega)).1, (ht p (by omega)).2.1⟩
    refine wp_mono (readAll_ok hLC) (fun v M' q => ?_)
    obtain ⟨q1, q2⟩ := q
    rw [wp_s]
    have e4 : up (up (up M 23 2 1) 23 3 (nI (min L 40))) 23 4 c 23 4 = c := up_self _ _ _ _
    rw [e4] at q2
    have hs := evR_shp (txN M) (min L 40) (evM M) (fun _ => 0)
    have fin : Fr voS M M' := hF.tr (lw_vo q1)
    unfold rlF
    cases er : evR (txN M) (min L 40) (evM M) with
    | inl f =>
      rw [er] at q2 hs
      rw [← hs]
      refine ⟨q2.2, fun f' hf' => ?_, fin⟩
      have : some f = some f' := hf'
      cases this
      exact q2.1
    | inr w =>
      rw [er] at q2 hs
      rw [← hs]
      have hw := (expr_up (sumP_up (prodP_up (sgn_up (base_up 4) 40))) 0 w.1 w.2 er).2 (Nat.zero_le _)
      obtain ⟨q3, q4⟩ := q2
      show M' 23 6 = (match (if w.2 = L then none else some w.2) with
        | none => -1
        | some f => nI f) ∧ (∀ f, (if w.2 = L then none else some w.2) = some f → f < 2 ^ 30) ∧ Fr voS M M'
      by_cases e : w.2 = L
      · rw [if_pos ⟨by omega, hcL.mpr (by omega)⟩] at q4
        rw [if_pos e]
        exact ⟨q4, (fun f hf => by cases hf), fin⟩
      · rw [if_neg (fun z => e (by have := hcL.mp z.2; omega))] at q4
        rw [if_neg e]
        refine ⟨q4.1, fun f hf => ?_, fin⟩
        cases hf
        exact q4.2
  by_cases h40 : 40 < L
  · rw [if_pos (show (40 : Int32) < nI L from nI_lt (a := 40) h40 (by omega))]
    exact go 1 (Or.inr rfl) ⟨fun z => absurd z (by decide), fun z => by omega⟩
  · rw [if_neg (show ¬ (40 : Int32) < nI L from nI_nlt (a := 40) (by omega) (by decide))]
    exact go 0 (Or.inl rfl) ⟨fun _ => by omega, fun _ => rfl⟩
theorem take_spec {M : Mem} {L : Nat} (hT : TL M L) (h : L ≤ 40) : wp (f_X3_take M) (fun _ M' => M' 23 1 = nI L ∧ (∀ k, k < L → M' 24 k = nI (txN M k)) ∧ Fr (fun i k => i = 24 ∨ (i = 23 ∧ k = 1)) M M') := by
  obtain ⟨l80, e1, e2, ht⟩ := hT
  unfold f_X3_take f_X3_take_0
  rw [e1, if_neg (show ¬ (40 : Int32) < nI L from nI_nlt (a := 40) (by omega) (by decide)), wp_vl, wp_ml]
  simp only [up_self]
  have hcp : cpOk (up M 23 1 (nI L)) 2 0 0 (nI L) 80 40 := ⟨by decide, by decide, nI_pos (by omega), by rw [nI_clamp (by omega), c0]; omega, by rw [nI_clamp (by omega), c0]; omega⟩
  have hch : chOk (up M 23 1 (nI L)) 2 0 (nI L) := by
    intro i hi
    rw [nI_clamp (by omega)] at hi
    rw [c0, Nat.zero_add, up_row _ _ _ (by decide), (ht i (by omega)).2.1]
    exact (pk_charN (by have := (ht i (by omega)).1; omega)).2
  rw [gd_t hcp, gd_t hch, wp_ml, wp_s]
  refine ⟨?_, fun k hk => ?_, ?_⟩
  · rw [cp_row _ _ _ _ _ (by decide), up_self]
  · unfold cpM upR
    rw [if_pos rfl, c0, nI_clamp (by omega), pk_cpy_in (Nat.zero_le _) (by omega)]
    rw [Nat.sub_zero, Nat.zero_add, up_row _ _ _ (by decide)]
    exact (ht k (by omega)).2.1
  · exact (Fr.up (S := fun i k => i = 24 ∨ (i = 23 ∧ k = 1)) Fr.rf (Or.inr ⟨rfl, rfl⟩)).cp (fun _ => Or.inl rfl)
theorem rule71 {M : Mem} {t : Nat → Nat} {n : Nat} (hn : n ≤ 40) (ht : ∀ k, k < n → M 183 k = sB (t k)) : wp (f_X11_rule_71 (nI n) M) (fun r M' => r = 0 ∧ M' 174 22 = nI n ∧ (∀ k, k < n → M' 186 k = sB (t k)) ∧ Fr (fun i k => i = 186 ∨ (i = 174 ∧ k = 22)) M M') := by
  unfold f_X11_rule_71
  refine wp_for (α := Unit) (fun m _ x M => f_X11_rule_73 m (nI n) x M) n (fun k _ M1 => (∀ j, j < k → M1 186 j = sB (t j)) ∧ Fr (fun i k => i = 186 ∨ (i = 174 ∧ k = 22)) M M1) _ (fun m k _ M1 hk hJ kk => ?_) (fun m _ M1 hJ => ?_) n 0 FU () M (by omega) (by show n < 2000; omega) ⟨fun j hj => absurd hj (Nat.not_lt_zero j), Fr.rf⟩
  · show wp (f_X11_rule_73 (m + 1) (nI n) (nI k) M1) _
    unfold f_X11_rule_73
    rw [if_pos (nI_lt hk (by omega)), gd_t (nI_inb (show k < 80 by omega) (by decide)), gd_t (nI_inb (show k < 40 by omega) (by decide)), nI_clamp (by omega), wp_ml, wp_vl, nI_1, hJ.2 183 k (by omega), ht k hk]
    refine kk () _ ⟨fun j hj => ?_, hJ.2.up (Or.inl rfl)⟩
    by_cases e : j = k
    · subst e
      rw [up_self]
      exact pk_vb (nI (t j))
    · rw [up_col _ _ _ e]; exact hJ.1 j (by omega)
  · show wp (f_X11_rule_73 (m + 1) (nI n) (nI n) M1) _
    unfold f_X11_rule_73
    rw [if_neg (nI_nlt (Nat.le_refl _) (by omega)), wp_ml, wp_s]
    exact ⟨rfl, up_self _ _ _ _, fun k hk => by rw [up_row _ _ _ (by decide)]; exact hJ.1 k hk, hJ.2.up (Or.inr ⟨rfl, rfl⟩)⟩
theorem rule_ref {M : Mem} {t : Nat → Nat} {L : Nat} (hL : L ≤ 80) (e11 : M 174 11 = nI L) (ht : ∀ k, k < 80 → t k < 256 ∧ M 183 k = sB (t k)) : wp (f_X11_rule M) (fun r M' => (if L = 0 then r = 0 ∧ M' 174 22 = nI 0 ∧ Fr (fun i k => i = 186 ∨ i = 174) M M' else match rlF t L with
    | none => r = 0 ∧ M' 174 22 = nI L ∧ (∀ k, k < L → M' 186 k = sB (t k))
    | some f => r = -1 - nI f ∧ Fr (fun i k => i = 174 ∧ k ≠ 22) M M') ∧ M' 174 11 = 0 ∧ Fr (fun i k => i = 186 ∨ (i = 174 ∧ (k = 11 ∨ k = 14 ∨ (15 ≤ k ∧ k ≤ 19) ∨ k = 22 ∨ k = 23))) M M') := by
  unfold f_X11_rule f_X11_rule_0 f_X11_begin f_X11_begin_0
  rw [wp_ml, wp_vl, up_col _ _ _ (by decide), e11, wp_bd, wp_ml, wp_ml, wp_ml, wp_ml, wp_ml, wp_s, wp_ml, wp_ml]
  have hF0 : Fr (fun i k => i = 174 ∧ (k = 11 ∨ k = 14 ∨ (15 ≤ k ∧ k ≤ 19) ∨ k = 23)) M (up (up (up (up (up (up (up (up M 174 14 0) 174 15 (bc 183)) 174 16 (nI L)) 174 17 40) 174 18 0) 174 19 (-1)) 174 11 0) 174 23 0) := (((((((Fr.up (S := fun i k => i = 174 ∧ (k = 11 ∨ k = 14 ∨ (15 ≤ k ∧ k ≤ 19) ∨ k = 23)) Fr.rf ⟨rfl, by omega⟩).up ⟨rfl, by omega⟩).up ⟨rfl, by omega⟩).up ⟨rfl, by omega⟩).up ⟨rfl, by omega⟩).up ⟨rfl, by omega⟩).up ⟨rfl, by omega⟩).up ⟨rfl, by omega⟩
  have ez : up (up (up (up (up (up (up (up M 174 14 0) 174 15 (bc 183)) 174 16 (nI L)) 174 17 40) 174 18 0) 174 19 (-1)) 174 11 0) 174 23 0 174 11 = 0 := by simp [up_at]
  have k183 : ∀ k, up (up (up (up (up (up (up (up M 174 14 0) 174 15 (bc 183)) 174 16 (nI L)) 174 17 40) 174 18 0) 174 19 (-1)) 174 11 0) 174 23 0 183 k = M 183 k := fun k => hF0 183 k (by omega)
  by_cases h0 : L = 0
  · subst h0
    rw [if_neg (by decide)]
    refine wp_mono (rule71 (t := t) (by omega) (fun k hk => absurd hk (Nat.not_lt_zero k))) (fun r M' q => ?_)
    obtain ⟨q1, q2, q3, q4⟩ := q
    rw [if_pos rfl]
    refine ⟨⟨q1, q2, ?_⟩, (q4 174 11 (by omega)).trans ez, ?_⟩
    · exact (hF0.mn (fun i k z => Or.inr z.1)).tr (q4.mn (fun i k z => by omega))
    · exact (hF0.mn (fun i k z => by omega)).tr (q4.mn (fun i k z => by omega))
  · simp only [if_neg h0]
    rw [if_pos (nIp (by omega) (by omega)), wp_bd]
    have e15 : up (up (up (up (up (up (up (up M 174 14 0) 174 15 (bc 183)) 174 16 (nI L)) 174 17 40) 174 18 0) 174 19 (-1)) 174 11 0) 174 23 0 174 15 = bc 183 := by simp [up_at]
    have hRC : RC (up (up (up (up (up (up (up (up M 174 14 0) 174 15 (bc 183)) 174 16 (nI L)) 174 17 40) 174 18 0) 174 19 (-1)) 174 11 0) 174 23 0) t (min L 40) := by
      refine ⟨by rw [e15]; exact bc_0 183, by rw [e15, bc_v (Or.inl rfl)]; show min L 40 ≤ 80; omega, ⟨L, 40, hL, by decide, by simp [up_at], by simp [up_at]; rfl, rfl⟩, fun p hp => ⟨(ht p (by omega)).1, ?_⟩⟩
      rw [e15, bc_v (Or.inl rfl), k183]
      exact (ht p (by omega)).2
    have hEv : EvR (up (up (up (up (up (up (up (up M 174 14 0) 174 15 (bc 183)) 174 16 (nI L)) 174 17 40) 174 18 0) 174 19 (-1)) 174 11 0) 174 23 0) (fun _ => 0) := Or.inl ⟨up_self _ _ _ _, fun _ => rfl⟩
    refine wp_mono (tr_all (by omega) _ 0 hRC hEv (by simp [up_at]; rfl) (by simp [up_at]) (Nat.zero_le _) (Nat.zero_le _)) (fun v M1 q => ?_)
    have hF1 : ∀ {M2 : Mem}, Fr rdS M1 M2 → Fr rdS (up (up (up (up (up (up (up (up M 174 14 0) 174 15 (bc 183)) 174 16 (nI L)) 174 17 40) 174 18 0) 174 19 (-1)) 174 11 0) 174 23 0) M1 → Fr (fun i k => i = 174 ∧ (k = 11 ∨ k = 14 ∨ (15 ≤ k ∧ k ≤ 19) ∨ k = 23)) M M2 ∧ M2 174 11 = 0 ∧ ∀ k, M2 183 k = M 183 k := by
      intro M2 h2 h1
      have h12 := h1.tr h2
      refine ⟨hF0.tr (h12.mn (fun i k z => by unfold rdS at z; omega)), (h12 174 11 (by unfold rdS; omega)).trans ez, fun k => (h12 183 k (by unfold rdS; omega)).trans (k183 k)⟩
    unfold f_X11_rule_57
    unfold rlF evR
    have bad : ∀ (f : Nat) (M2 : Mem), f < 2 ^ 30 → M2 174 19 = nI f → Fr rdS M1 M2 → Fr rdS (up (up (up (up (up (up (up (up M 174 14 0) 174 15 (bc 183)) 174 16 (nI L)) 174 17 40) 174 18 0) 174 19 (-1)) 174 11 0) 174 23 0) M1 → wp (bd (f_X11_fine M2) fun r19 M20 => if r19 = 0 then some (-1 - M20 174 19, M20) else f_X11_rule_71 (nI L) M20) (fun r M' => (r = -1 - nI f ∧ Fr (fun i k => i = 174 ∧ k ≠ 22) M M') ∧ M' 174 11 = 0 ∧ Fr (fun i k => i = 186 ∨ (i = 174 ∧ (k = 11 ∨ k = 14 ∨ (15 ≤ k ∧ k ≤ 19) ∨ k = 22 ∨ k = 23))) M M') := by
      intro f M2 hf h19 h2 h1
      obtain ⟨g1, g2, g3⟩ := hF1 h2 h1
      rw [fine_f (rq_nf hf h19), bd_e, if_pos rfl, wp_s, h19]
      exact ⟨⟨rfl, g1.mn (fun i k z => by omega)⟩, g2, g1.mn (fun i k z => by omega)⟩
    cases er : exB (lkp t (min L 40)) (base (lkp t (min L 40)) (fun _ => 0) 4) 0 with
    | inl f =>
      rw [er] at q
      obtain ⟨q1, q2, q3⟩ := q
      have hn := rq_nf q2 q3
      show wp (if M1 174 18 < nI L then bd (f_X11_fault (M1 174 18) M1) fun _ M24 => bd (f_X11_fine M24) fun r19 M20 => if r19 = 0 then some (-1 - M20 174 19, M20) else f_X11_rule_71 (nI L) M20 else bd (f_X11_fine M1) fun r19 M20 => if r19 = 0 then some (-1 - M20 174 19, M20) else f_X11_rule_71 (nI L) M20) _
      rw [fault_f hn, bd_e, wp_if]
      exact ⟨fun _ => bad f M1 q2 q3 Fr.rf q1, fun _ => bad f M1 q2 q3 Fr.rf q1⟩
    | inr w =>
      rw [er] at q
      obtain ⟨q1, q2, q3, q4⟩ := q
      have hw := (expr_up (sumP_up (prodP_up (sgn_up (base_up 4) 40))) 0 w.1 w.2 er).2 (Nat.zero_le _)
      show wp (if M1 174 18 < nI L then bd (f_X11_fault (M1 174 18) M1) fun _ M24 => bd (f_X11_fine M24) fun r19 M20 => if r19 = 0 then some (-1 - M20 174 19, M20) else f_X11_rule_71 (nI L) M20 else bd (f_X11_fine M1) fun r19 M20 => if r19 = 0 then some (-1 - M20 174 19, M20) else f_X11_rule_71 (nI L) M20) (fun r M' => (match (if w.2 = L then none else some w.2) with
        | none => r = 0 ∧ M' 174 22 = nI L ∧ (∀ k, k < L → M' 186 k = sB (t k))
        | some f => r = -1 - nI f ∧ Fr (fun i k => i = 174 ∧ k ≠ 22) M M') ∧ M' 174 11 = 0 ∧ Fr (fun i k => i = 186 ∨ (i = 174 ∧ (k = 11 ∨ k = 14 ∨ (15 ≤ k ∧ k ≤ 19) ∨ k = 22 ∨ k = 23))) M M')
      rw [q3]
      by_cases e : w.2 = L
      · rw [if_neg (nI_nlt (by omega) (by omega)), if_pos e, fine_t q4, bd_e, if_neg (by decide)]
        obtain ⟨g1, g2, g3⟩ := hF1 Fr.rf q1
        refine wp_mono (rule71 (t := t) (by omega) (fun k hk => by rw [g3 k]; exact (ht k (by omega)).2)) (fun r M' y => ?_)
        obtain ⟨y1, y2, y3, y4⟩ := y
        exact ⟨⟨y1, y2, y3⟩, (y4 174 11 (by omega)).trans g2, (g1.mn (fun i k z => by omega)).tr (y4.mn (fun i k z => by omega))⟩
      · rw [if_pos (nI_lt (by omega) (by omega)), if_neg e, fault_t q4, bd_e]
        exact bad w.2 _ (by omega) (up_self _ _ _ _) r19 q1
