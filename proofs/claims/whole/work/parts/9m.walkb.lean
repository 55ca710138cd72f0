/-! the class: a day by an order, from a place on -/
theorem nodup_at {l : List Nat} (hn : l.Nodup) {k g : Nat} (hk : k < l.length) (e : l = l.take k ++ g :: l.drop (k + 1)) : ¬ g ∈ l.take k := by
  intro h
  rw [e] at hn
  exact (List.nodup_append.mp hn).2.2 g h g (List.mem_cons_self) rfl
theorem walk38 {C : Cf} {M0 : Mem} {σ : Sm} {L : Nat} {lis : Bool} {S : Nat → Sm → Bool} {l : List Nat} (hC : COk C) (hl : ∀ g, g ∈ l → g < C.2.1) (hl0 : ∀ g, g ∈ l → σ.1 g = 0) (hnd : l.Nodup) (hne : l ≠ []) (hL : L ≤ 400) (hB : σ.2.2.2.2 < 2 ^ 29) : ∀ (m k n : Nat) (M : Mem) (T : Nat → Sm), k + m = l.length → m < n → CfC M C → HS C σ.2.2.2.2 lis S M → OrC 124 M l → M 128 4 = pI 0 → (∀ j, j ≤ k → IsC C M (130 + 5 * j) (T j) ∧ RcA C σ L lis S (l.take j) (T j)) → (k < l.length ∨ (T k).2.2.2.2 ≤ σ.2.2.2.2 + L) → Fr trS M0 M → wp (f_X9_walk_38 124 n (nI (σ.2.2.2.2 + L)) (nI k) M) (fun r M' => Fr trS M0 M' ∧ Wkp C σ L lis S l M' ∧ WkR C σ L lis S l r M')
  | 0, k, n + 1, M, T, he, _, hM, hH, hq, h4, hT, hk, hF => by
    have h6 := hq.1
    have hkl : k = l.length := by omega
    subst hkl
    obtain ⟨t1, t2⟩ := hT l.length (Nat.le_refl _)
    rw [List.take_length] at t2
    unfold f_X9_walk_38
    rw [hq.2.1, if_neg (nI_nlt (by omega) (by omega))]
    exact walk112 hC hl hne hL hB hM hH hq h4 ⟨T, hT⟩ t1 t2 (hk.elim (fun z => by omega) id) hF
  | m + 1, k, n + 1, M, T, he, hn, hM, hH, hq, h4, hT, hk, hF => by
    have h6 := hq.1
    have c2 := hC.2.1
    have hkl : k < l.length := by omega
    obtain ⟨t1, t2⟩ := hT k (Nat.le_refl _)
    obtain ⟨g, g1, g2, g3, g4⟩ := get_some (l := l) (k := k) hkl
    have hg := hl g g2
    have hRc := t2.1
    have h0g : (T k).1 g = 0 := hRc.2.2.2.1 g (nodup_at hnd hkl g4) (hl0 g g2)
    unfold f_X9_walk_38
    rw [hq.2.1, if_pos (nI_lt (by omega) (by omega)), if_pos (show nI k < 6 from nI_lt (b := 6) (by omega) (by decide)), nI_1, gd_t (nI_inb (show k + 1 < 7 by omega) (by decide)), gd_t (nI_inb (show k < 7 by omega) (by decide)), nI_clamp (by omega), nI_clamp (by omega), wp_bd]
    refine wp_mono (copy_spec (s := 130 + 5 * (k + 1)) (by omega) t1) (fun _ M1 h => ?_)
    obtain ⟨i1, f1⟩ := h
    have hM1 := CfC.fr (by omega) c2 f1 hM
    have hH1 := hH.fr c2 (by omega) f1
    rw [gd_t (nI_inc (show k + 1 < 7 by omega) (by decide)), gd_t (nI_inc (show k < 6 by omega) (by decide)), f1 125 k (by unfold stS; omega), hq.2.2 k g g1, wp_bd]
    refine wp_mono (sendOff_spec (by omega) hC hM1 i1 hRc.2.2.1 hH1 hRc.1 hRc.2.1 (show σ.2.2.2.2 + L ≤ σ.2.2.2.2 + 400 by omega) hB hg h0g) (fun r M2 h => ?_)
    obtain ⟨f2, h⟩ := h
    have f12 := f1.tr f2
    have hF2 : Fr trS M0 M2 := hF.tr (f12.mn (fun i k q => by unfold stS at q; unfold trS; omega))
    have hM2 := CfC.fr (by omega) c2 f12 hM
    have hH2 := hH.fr c2 (by omega) f12
    have hq2 : OrC 124 M2 l := hq.eq (f12 124 1 (by unfold stS; omega)) (fun j => f12 125 j (by unfold stS; omega))
    have h42 : M2 128 4 = pI 0 := (f12 128 4 (by unfold stS; omega)).trans h4
    have hT2 : ∀ j, j ≤ k → IsC C M2 (130 + 5 * j) (T j) ∧ RcA C σ L lis S (l.take j) (T j) := fun j hj => ⟨IsC.eq (fun i q a b _ => f12 i q (by unfold stS; omega)) (hT j hj).1, (hT j hj).2⟩
    have go : ∀ τ', IsC C M2 (130 + 5 * (k + 1)) τ' → RcA C σ L lis S (l.take (k + 1)) τ' → τ'.2.2.2.2 ≤ σ.2.2.2.2 + L → r = 1 → wp (if r = 0 then ml (up M2 128 4 (nI k)) fun M31 => some (0, M31) else vl (nI (k + 1)) fun v30 => f_X9_walk_38 124 n (nI (σ.2.2.2.2 + L)) v30 M2) (fun r M' => Fr trS M0 M' ∧ Wkp C σ L lis S l M' ∧ WkR C σ L lis S l r M') := by
      intro τ' z1 z2 z3 z4
      rw [z4, if_neg (by decide), wp_vl]
      refine walk38 hC hl hl0 hnd hne hL hB m (k + 1) n M2 (fun j => if j = k + 1 then τ' else T j) (by omega) (by omega) hM2 hH2 hq2 h42 (fun j hj => ?_) (Or.inr (by rw [if_pos rfl]; exact z3)) hF2
      by_cases w : j = k + 1
      · subst w; rw [if_pos rfl]; exact ⟨z1, z2⟩
      · rw [if_neg w]; exact hT2 j (by omega)
    have no : Bad C σ L lis S (l.take (k + 1)) → r = 0 → wp (if r = 0 then ml (up M2 128 4 (nI k)) fun M31 => some (0, M31) else vl (nI (k + 1)) fun v30 => f_X9_walk_38 124 n (nI (σ.2.2.2.2 + L)) v30 M2) (fun r M' => Fr trS M0 M' ∧ Wkp C σ L lis S l M' ∧ WkR C σ L lis S l r M') := by
      intro z1 z2
      rw [z2, if_pos rfl, wp_ml, wp_s]
      refine ⟨hF2.up (Or.inl ⟨rfl, rfl⟩), ⟨k + 1, k, by rw [up_self, pI_s], by omega, ⟨T, fun j hj => ⟨IsC.eq (fun i q a b _ => by rw [up_row _ _ _ (by omega)]) (hT2 j hj).1, (hT2 j hj).2⟩⟩, Or.inr ⟨rfl, by omega, z1⟩⟩, Or.inr ⟨rfl, bad_of hl z1⟩⟩
    rcases h with ⟨j, j1, j2, j3, j4, j5, j6⟩ | ⟨j, j1, j2, j3, j4, j5, j6⟩ | ⟨j, j1, j2, j3, j4, j5⟩ | ⟨j, j1, j2, j3, j4, j5⟩
    · have e : (off C (mn C j (T k)) g).2.2.2.2 = (T k).2.2.2.2 + j := by rw [off_eq hC hg]; exact mn_now C j (T k)
      refine go _ j6 ?_ (by rw [e]; omega) j5
      rw [g3]
      exact ⟨rch_off hC hg hRc j2 j3 (by omega), fun z => rcn_off hC hg hRc (t2.2.1 z) j2, fun _ => by rw [e]; omega, rcs_off hC hg hRc t2.2.2.2 j2 j4⟩
    · cases lis with
      | false =>
        refine no (fun rr hrr => ?_) j5
        rintro (⟨_, nn, n1, n2⟩ | ⟨z, _⟩)
        · have := (dnb_t.mp n2).1
          rw [g3, app1] at this
          by_cases z : σ.2.2.2.2 + nn ≤ (T k).2.2.2.2
          · exact (t2.2.1 rfl).2 (g :: rr) nn n1 z (by simp) this
          · rw [rch_w hRc j3 n1 (by omega) (by omega)] at this
            cases this
        · cases z
      | true =>
        have hle := t2.2.2.1 rfl
        have e : (mn C j (T k)).2.2.2.2 = σ.2.2.2.2 + L := by
          rw [mn_now]
          by_cases z : 0 < j
          · exact j2 z
          · omega
        refine go _ j6 ?_ (by rw [e]; exact Nat.le_refl _) j5
        rw [g3]
        refine ⟨⟨by rw [e]; omega, by rw [e]; omega, ok_mn hC j hRc.2.2.1, fun x hx hx0 => mn_out j (hRc.2.2.2.1 x (fun z => hx (mem_app1.mpr (Or.inl z))) hx0), fun rr nn n1 n2 => by rw [e] at n2; omega⟩, (fun z => by cases z), fun _ => by rw [e]; exact Nat.le_refl _, fun rr nn n0 n1 n2 => ?_⟩
        rw [e] at n2
        rw [app1]
        by_cases z : σ.2.2.2.2 + nn ≤ (T k).2.2.2.2
        · exact t2.2.2.2 (g :: rr) nn n0 n1 z
        · unfold od
          rw [mn_now] at e
          rw [rch_w hRc j3 n1 (by omega) (by omega)]
          have := j4 (σ.2.2.2.2 + nn - (T k).2.2.2.2) (by omega) (by omega)
          rw [show (T k).2.2.2.2 + (σ.2.2.2.2 + nn - (T k).2.2.2.2) - σ.2.2.2.2 = nn by omega] at this
          exact this
    · have h0 := hRc.1
      refine no (fun rr hrr => ?_) j5
      rintro (⟨z, _⟩ | ⟨_, h⟩)
      · rw [hH.2.2.1 z] at j4; cases j4
      · have := h ((T k).2.2.2.2 + j - σ.2.2.2.2) (by omega) (by omega)
        rw [g3, app1] at this
        unfold od at this
        rw [rch_w hRc j3 (by omega) (by omega) (by omega), show σ.2.2.2.2 + ((T k).2.2.2.2 + j - σ.2.2.2.2) - (T k).2.2.2.2 = j by omega, j4] at this
        cases this
    · have h0 := hRc.1
      refine no (fun rr hrr => ?_) j5
      rintro (⟨_, nn, n1, n2⟩ | ⟨z, _⟩)
      · obtain ⟨d1, d2⟩ := dnb_t.mp n2
        rw [g3, app1] at d1 d2
        by_cases z : σ.2.2.2.2 + nn ≤ (T k).2.2.2.2
        · exact (t2.2.1 j1).2 (g :: rr) nn n1 z (by simp) d1
        · by_cases w : σ.2.2.2.2 + nn ≤ (T k).2.2.2.2 + j
          · rw [rch_w hRc j4 n1 (by omega) w] at d1
            cases d1
          · have d3 := d2 g (by simp)
            unfold od at d3
            rw [hRc.2.2.2.2 (g :: rr) nn n1 (by omega), show σ.2.2.2.2 + nn - (T k).2.2.2.2 = j + (σ.2.2.2.2 + nn - ((T k).2.2.2.2 + j)) by omega, dS_wait j _ _ j4] at d3
            refine not_thr hC (ok_mn hC j hRc.2.2.1) (fun x hx => ?_) (mn_out j h0g) (by omega) d3
            rcases List.mem_cons.mp hx with hx | hx
            · rw [hx]; exact hg
            · exact hrr x hx
      · rw [j1] at z; cases z
/-- before a day is tried: how much of the one tried last holds -/
def Wpr (C : Cf) (σ : Sm) (L : Nat) (lis : Bool) (S : Nat → Sm → Bool) (l : List Nat) (fm : Nat) (M : Mem) : Prop := ∃ f, M 128 4 = pI f ∧ f ≤ 6 ∧ ((0 < f ∧ f ≤ fm ∧ f ≤ l.length ∧ Bad C σ L lis S (l.take f) ∧ Vd C σ L lis S l (f - 1) M) ∨ ((f = 0 ∨ fm < f) ∧ Vd C σ L lis S l fm M))
theorem wpr_of {C : Cf} {σ : Sm} {L : Nat} {lis : Bool} {S : Nat → Sm → Bool} {l l' : List Nat} {fm : Nat} {M : Mem} (h6 : l.length ≤ 6) (hl : l'.length = l.length) (hf : fm ≤ l.length) (ht : l'.take fm = l.take fm) (h : Wkp C σ L lis S l M) : Wpr C σ L lis S l' fm M := by
  obtain ⟨f, K, h1, h2, h3, h4⟩ := h
  have tk : ∀ j, j ≤ fm → l'.take j = l.take j := by
    intro j hj
    have := congrArg (List.take j) ht
    rw [List.take_take, List.take_take, Nat.min_eq_left hj] at this
    exact this
  rcases h4 with ⟨rfl, rfl⟩ | ⟨rfl, h5, h6⟩
  · exact ⟨0, h1, by omega, Or.inr ⟨Or.inl rfl, h3.eq hf (tk fm (Nat.le_refl _)) (fun i k _ _ => rfl)⟩⟩
  · refine ⟨K + 1, h1, by omega, ?_⟩
    by_cases z : K + 1 ≤ fm
    · exact Or.inl ⟨by omega, z, by omega, by rw [tk _ z]; exact h6, h3.eq (by omega) (tk _ (by omega)) (fun i k _ _ => rfl)⟩
    · exact Or.inr ⟨Or.inr (by omega), h3.eq (by omega) (tk fm (Nat.le_refl _)) (fun i k _ _ => rfl)⟩
theorem walk_spec {C : Cf} {M : Mem} {σ : Sm} {L fm : Nat} {lis : Bool} {S : Nat → Sm → Bool} {l : List Nat} (hC : COk C) (hl : ∀ g, g ∈ l → g < C.2.1) (hl0 : ∀ g, g ∈ l → σ.1 g = 0) (hnd : l.Nodup) (hfm : fm < l.length) (hL : L ≤ 400) (hB : σ.2.2.2.2 < 2 ^ 29) (hM : CfC M C) (hH : HS C σ.2.2.2.2 lis S M) (hq : OrC 124 M l) (hW : Wpr C σ L lis S l fm M) : wp (f_X9_walk 124 (nI fm) (nI L) M) (fun r M' => Fr trS M M' ∧ Wkp C σ L lis S l M' ∧ WkR C σ L lis S l r M') := by
  have h6 := hq.1
  have c2 := hC.2.1
  obtain ⟨f, f1, f2, f3⟩ := hW
  have hne : l ≠ [] := by
    intro z
    rw [z] at hfm
    exact absurd hfm (Nat.not_lt_zero _)
  have go : Vd C σ L lis S l fm M → wp (f_X9_walk_18 124 (nI fm) (nI L) M) (fun r M' => Fr trS M M' ∧ Wkp C σ L lis S l M' ∧ WkR C σ L lis S l r M') := by
    rintro ⟨T, hT⟩
    unfold f_X9_walk_18
    rw [wp_ml, wp_vl, wp_vl, up_col _ _ _ (by decide), hH.1, nI_add]
    have e : (if (0 : Int32) < nI fm then nI fm else 0) = nI fm := by
      by_cases z : 0 < fm
      · rw [if_pos (nIp z (by omega))]
      · have : fm = 0 := by omega
        subst this; rfl
    rw [e]
    have hF : Fr trS M (up M 128 4 (-1)) := Fr.rf.up (Or.inl ⟨rfl, rfl⟩)
    refine walk38 hC hl hl0 hnd hne hL hB (l.length - fm) fm FU _ T (by omega) (by show l.length - fm < 2000; omega) (CfC.eq c2 (fun i k hi => by rw [up_row _ _ _ (by omega)]) hM) (hH.eq c2 (fun i k hi => ?_)) (hq.eq (by rw [up_row _ _ _ (by decide)]) (fun k => by rw [up_row _ _ _ (by decide)])) (by rw [up_self, pI_0]) (fun j hj => ⟨IsC.eq (fun i k a b _ => by rw [up_row _ _ _ (by omega)]) (hT j hj).1, (hT j hj).2⟩) (Or.inl hfm) hF
    rcases hi with hi | hi | hi
    · rw [up_row _ _ _ (by omega)]
    · rw [up_row _ _ _ (by omega)]
    · rw [hi.1, up_col _ _ _ hi.2]
  unfold f_X9_walk f_X9_walk_0
  rw [f1]
  rcases f3 with ⟨z1, z2, z3, z4, z5⟩ | ⟨z1, z2⟩
  · rw [if_neg (fun z => by rw [pI_m1 (by omega)] at z; omega), if_pos ((pI_ltn (by omega) (by omega)).mpr z2), wp_s]
    refine ⟨Fr.rf, ⟨f, f - 1, f1, by omega, z5, Or.inr ⟨by omega, z3, z4⟩⟩, Or.inr ⟨rfl, bad_of hl z4⟩⟩
  · by_cases z : f = 0
    · rw [if_pos ((pI_m1 (by omega)).mpr z)]
      exact go z2
    · rw [if_neg (fun w => z ((pI_m1 (by omega)).mp w)), if_neg (fun w => by have := (pI_ltn (by omega) (by omega)).mp w; omega)]
      exact go z2
def bgS : Nat → Nat → Prop := fun i _ => i = 128 ∨ (130 ≤ i ∧ i ≤ 134)
theorem begin_spec {C : Cf} {M : Mem} {σ : Sm} {lis : Bool} (hS : IsC C M 26 σ) (hO : Ok C σ) : wp (f_X9_begin 26 (b2i (lis = true)) M) (fun _ M' => M' 128 5 = nI σ.2.2.2.2 ∧ M' 128 3 = b2i (lis = true) ∧ (∀ L S l, Wpr C σ L lis S l 0 M') ∧ Fr bgS M M') := by
  unfold f_X9_begin f_X9_begin_0
  rw [gd_t (by decide), c0, wp_bd]
  refine wp_mono (copy_spec (s := 130) (by omega) hS) (fun _ M1 h => ?_)
  obtain ⟨i1, f1⟩ := h
  rw [wp_ml, wp_gd]
  refine ⟨b2i_01 _, ?_⟩
  rw [wp_ml, wp_ml, wp_s]
  have e26 : M1 26 0 = nI σ.2.2.2.2 := (f1 26 0 (by unfold stS; omega)).trans hS.2.2.2.2.1
  refine ⟨?_, ?_, fun L S l => ⟨0, by rw [up_self, pI_0], by omega, Or.inr ⟨Or.inl rfl, fun _ => σ, fun j hj => ?_⟩⟩, ?_⟩
  · rw [up_col _ _ _ (by decide), up_col _ _ _ (by decide), up_self, e26]
  · rw [up_col _ _ _ (by decide), up_self]
  · have : j = 0 := by omega
    subst this
    refine ⟨IsC.eq (fun i k a b _ => by rw [up_row _ _ _ (by omega), up_row _ _ _ (by omega), up_row _ _ _ (by omega)]) i1, ?_⟩
    rw [List.take_zero]
    exact ⟨rch_0 hO, fun _ => rcn_0, fun _ => Nat.le_add_right _ _, rcs_0⟩
  · exact (((f1.mn (fun i k q => by unfold stS at q; unfold bgS; omega)).up (Or.inl rfl)).up (Or.inl rfl)).up (Or.inl rfl)
/-- a limit that is no greater -/
theorem Wkp.le {C : Cf} {σ : Sm} {L L' : Nat} {S : Nat → Sm → Bool} {l : List Nat} {M : Mem} (hL : L' ≤ L) (hS : ∀ n τ, S n τ = true) (h : Wkp C σ L false S l M) : Wkp C σ L' false S l M := by
  obtain ⟨f, K, h1, h2, ⟨T, hT⟩, h4⟩ := h
  refine ⟨f, K, h1, h2, ⟨T, fun j hj => ?_⟩, ?_⟩
  · obtain ⟨a, b, c, _, d⟩ := hT j hj
    exact ⟨a, b.le hL, fun z => (c z).le hL, (fun z => by cases z), fun r n _ _ _ => hS _ _⟩
  · rcases h4 with h | ⟨a, b, c⟩
    · exact Or.inl h
    · refine Or.inr ⟨a, b, fun r hr z => c r hr ?_⟩
      rcases z with ⟨z, n, n1, n2⟩ | ⟨z, _⟩
      · exact Or.inl ⟨rfl, n, by omega, n2⟩
      · cases z
