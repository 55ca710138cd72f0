/-! over, off, minute, minutes, undo -/
theorem mut_fin {N : Nat} {C : Cf} {σ σ' : Sm} {M Mc Mr : Mem} {lt' u : Nat} {τ : Nat → Sm} (hI : InvE N C σ M) (hN : N < 512) (p3 : ∀ j, j < u → Ok C (τ j) ∧ (τ j).2.2.2.2 ≤ 1800 * N) (hFc : Fr stp M Mc) (hFr : Fr stp Mc Mr) (hlo : ∀ i k, i < 174 → Mr i k = Mc i k) (hc : IsC C Mc 26 σ') (hp : PsC C Mc lt' (pu1 u) (psh σ τ)) (hr : IsR C (Mr 175) σ') (hpr : PsR C Mr (pu1 u) (psh σ τ)) (hO : Ok C σ') (hn : σ'.2.2.2.2 ≤ 1800 * (N + 1)) : InvE (N + 1) C σ' Mr :=
  hI.st (Nat.le_succ N) hN (hFc.tr hFr) hO hn (IsC.eq (fun i k _ _ _ => hlo i k (by omega)) hc) hr (ps_mk (hp.eq (fun i k _ _ => hlo i k (by omega))) hpr p3 hI.2.1 hI.2.2.1)
theorem row_lo {M Mc Mr : Mem} (hR : RowE M) (h1 : Mc 0 16 = M 0 16) (h2 : ∀ k, Mc 173 k = M 173 k) (hlo : ∀ i k, i < 174 → Mr i k = Mc i k) (h3 : Mr 174 13 = M 174 13) (h4 : ∀ k, Mr 184 k = M 184 k) : RowE Mr := hR.fr ((hlo 0 16 (by decide)).trans h1) (funext fun k => (hlo 173 k (by decide)).trans (h2 k)) h3 (funext h4)
def ovr (σ : Sm) (g n : Nat) : Sm := (σ.1, fs σ.2.1 g (min 99 (σ.2.1 g + n)), σ.2.2.1, σ.2.2.2.1, σ.2.2.2.2)
theorem ok_ovr {C : Cf} {σ : Sm} {g n : Nat} (h : Ok C σ) (hg : ins (σ.1 g) = true) : Ok C (ovr σ g n) := by
  obtain ⟨h1, h2, h3, h4, h5, h6, h7, h8, h9, h10⟩ := h
  refine ⟨h1, h2, fun k hk => ?_, h4, fun k => ?_, h6, h7, h8, h9, h10⟩
  · have hk2 : ins (σ.1 k) = false := hk
    show fs σ.2.1 g _ k = 0
    rw [fs_n _ _ (fun e => by subst e; rw [hg] at hk2; cases hk2)]
    exact h3 k hk2
  · show fs σ.2.1 g _ k ≤ 99
    by_cases e : k = g
    · subst e; rw [fs_s]; omega
    · rw [fs_n _ _ e]; exact h5 k
theorem min99 {a b : Nat} (h : a + b < 2 ^ 31) : (if nI a + nI b < (99 : Int32) then nI a + nI b else 99) = nI (min 99 (a + b)) := by
  rw [nI_add]
  by_cases q : a + b < 99
  · rw [if_pos (show nI (a + b) < 99 from nI_lt (b := 99) q (by decide)), show min 99 (a + b) = a + b by omega]
  · rw [if_neg (show ¬ nI (a + b) < 99 from nI_nlt (b := 99) (by omega) h), show min 99 (a + b) = 99 by omega]; rfl
theorem runOver_spec {C : Cf} {M : Mem} {s g n : Nat} {σ : Sm} (hS : IsC C M s σ) (hg : g < 6) (hl : σ.2.1 g ≤ 99) (hn : n ≤ 30) : wp (f_X7_runOver s (nI g) (nI n) M) (fun _ M' => IsC C M' s (ovr σ g n) ∧ Fr (stS s) M M') := by
  unfold f_X7_runOver f_X7_runOver_0 f_X7_runOver_29
  rw [if_neg (nI_pos (by omega)), if_pos (show nI g < 6 from nI_lt (b := 6) hg (by decide))]
  simp only [gd_t (nI_inb hg (show 6 ≤ 1000 by decide))]
  rw [nI_clamp (by omega), wp_vl, hS.2.1 g hg, min99 (by omega), wp_ml, wp_s]
  obtain ⟨a1, a2, a3, a4, a5, a6⟩ := hS
  refine ⟨⟨rw_ne (by omega) a1, rw_up a2, rw_ne (by omega) a3, rw_ne (by omega) a4, ?_, fun r hr => ?_⟩, Fr.rf.up ⟨by omega, by omega⟩⟩
  · rw [up_row _ _ _ (by omega)]; exact a5
  · rw [up_row _ _ _ (by omega)]; exact a6 r hr
theorem goOver_spec {C : Cf} {M : Mem} {a g n : Nat} {σ : Sm} (hc : C.2.1 ≤ 6) (hL : LN a = 25) (hR : IsR C (M a) σ) (hg : g < C.2.1) (hl : σ.2.1 g ≤ 99) (hn : n ≤ 30) : wp (f_X11_goOver a (nI g) (nI n) M) (fun _ M' => IsR C (M' a) (ovr σ g n) ∧ Fr (fun i _ => i = a) M M') := by
  unfold f_X11_goOver f_X11_goOver_0
  rw [la6, hL]
  simp only [gd_t (nI_inb (show 6 + g < 25 by omega) (show 25 ≤ 1000 by decide))]
  rw [nI_clamp (by omega), hR.2.1 g hg, min99 (by omega), wp_vl, wp_ml, wp_s, upS]
  obtain ⟨a1, a2, a3, a4, a5⟩ := hR
  exact ⟨⟨rr_n0 (fun k hk => by omega) a1, rr_up a2, rr_ne (fun k hk => by omega) a3, rr_ne (fun k hk => by omega) a4, by rw [pk_un (by omega)]; exact a5⟩, Fr.up (S := fun i _ => i = a) Fr.rf rfl⟩
theorem cIns {C : Cf} {M : Mem} {σ : Sm} (hC : COk C) (hM : CfC M C) (hS : IsC C M 26 σ) (hO : OkM C σ) {g : Nat} (hg : g < C.2.1) : f_X10_isInside (nI g) M = some (b2i (ins (σ.1 g) = true), M) := by
  have c2 := hC.2.1
  unfold f_X10_isInside f_X10_isInside_0 f_X10_isInside_29 f_X10_isInside_30
  rw [hasG_t hC hM hg, bd_e, if_neg (by decide), ci_ins hC hS hO, bd_e, has_spec, bd_e]
  have hb : bit (bI (fun g => ins (σ.1 g))) (nI g) ↔ ins (σ.1 g) = true := by
    rw [bit_bI (fun g => ins (σ.1 g)) (show g < 32 by omega)]
    exact ⟨fun z => z.2, fun z => ⟨by omega, z⟩⟩
  by_cases h : ins (σ.1 g) = true
  · rw [b2i_t (hb.mpr h), if_neg (by decide), gd_t (by decide), b2i_t h]
  · rw [b2i_f (fun z => h (hb.mp z)), if_pos rfl, gd_t (by decide), b2i_f h]
theorem cIns_f {C : Cf} {M : Mem} (hM : CfC M C) {x : Int32} (h : x < 0 ∨ ¬ x < nI C.2.1) : f_X10_isInside x M = some (0, M) := by
  unfold f_X10_isInside f_X10_isInside_0 f_X10_isInside_29 f_X10_isInside_30
  rw [hasG_f hM h, bd_e, if_pos rfl, gd_t (by decide)]
theorem canOver_t {C : Cf} {M : Mem} {σ : Sm} (hC : COk C) (hM : CfR M C) (hR : IsR C (M 175) σ) (hO : OkM C σ) {g : Nat} (hg : g < C.2.1) (x : Int32) : f_X11_canOver (nI g) x M = some (b2i (ins (σ.1 g) = true ∧ ¬ x < 1 ∧ ¬ 30 < x), M) := by
  unfold f_X11_canOver f_X11_canOver_0 f_X11_canOver_34 f_X11_canOver_35
  rw [isG_t hC hM hg, bd_e, if_neg (by decide), ri_inside hC hO hR rfl hg, bd_e]
  by_cases h : ins (σ.1 g) = true
  · rw [b2i_t h, if_neg (by decide), in_spec, bd_e]
    by_cases h2 : ¬ x < 1 ∧ ¬ 30 < x
    · rw [b2i_t h2, if_neg (by decide), gd_t (by decide), b2i_t ⟨h, h2⟩]
    · rw [b2i_f h2, if_pos rfl, gd_t (by decide), b2i_f (fun z => h2 z.2)]
  · rw [b2i_f h, if_pos rfl, gd_t (by decide), b2i_f (fun z => h z.1)]
theorem canOver_f {C : Cf} {M : Mem} (hC : COk C) (hM : CfR M C) {x y : Int32} (h : x < 0 ∨ ¬ x < nI C.2.1) : f_X11_canOver x y M = some (0, M) := by
  unfold f_X11_canOver f_X11_canOver_0 f_X11_canOver_34 f_X11_canOver_35
  rw [isG_f hC hM h, bd_e, if_pos rfl, gd_t (by decide)]
theorem InvE.C14 {N : Nat} {C : Cf} {σ : Sm} {M : Mem} (h : InvE N C σ M) (x : Int32) : InvE N C σ (up M 174 14 x) := h.s0 fr14
theorem st_over {N : Nat} {M : Mem} (hN : N < 512) (h : Cpl N M) (x y : Int32) : Both N (f_X10_over x y) (f_X11_over x y) M := by
  obtain ⟨⟨C, σ, hI⟩, hR⟩ := h
  have hI' := hI.C14 0
  obtain ⟨a1, a2, a3, a4, a5, a6, a7, a8, a9, a10, a11, ⟨lt, u, τ, p1, p2, p3⟩, a13, a14⟩ := id hI
  have c2 := a1.2.1
  have no : (∀ M1 : Mem, CfR M1 C → IsR C (M1 175) σ → f_X11_canOver x y M1 = some (0, M1)) → wp (f_X11_over x y M) (fun r' M2 => r' = -1 ∧ Cpl (N + 1) M2) := by
    intro hx
    unfold f_X11_over f_X11_over_0
    rw [wp_ml, hx _ hI'.2.2.2.2.2.1 hI'.2.2.2.2.2.2.2.1, bd_e, if_pos rfl, wp_s]
    exact ⟨rfl, q_same hI hN hR fr14⟩
  unfold Both f_X10_over f_X10_over_0 f_X10_over_19
  rcases gcase C.2.1 c2 x with ⟨g, hg, rfl⟩ | ⟨hx, _⟩
  · have bad : ¬ (ins (σ.1 g) = true ∧ ¬ y < 1 ∧ ¬ 30 < y) → wp (f_X11_over (nI g) y M) (fun r' M2 => r' = -1 ∧ Cpl (N + 1) M2) := fun hb => no (fun M1 h1 h2 => by rw [canOver_t a1 h1 h2 a2.toM hg, b2i_f hb])
    by_cases h1 : y < 1
    · rw [if_pos h1, wp_s]; exact bad (fun z => z.2.1 h1)
    rw [if_neg h1]
    by_cases h2 : 30 < y
    · rw [if_pos h2, wp_s]; exact bad (fun z => z.2.2 h2)
    rw [if_neg h2, cIns a1 a5 a7 a2.toM hg, bd_e]
    by_cases hi : ins (σ.1 g) = true
    · rw [b2i_t hi, if_neg (by decide), wp_bd]
      obtain ⟨n, n1, n30, rfl⟩ := rng (a := 1) (b := 30) (by decide) (by decide) h1 h2
      refine wp_mono (add_spec (s1 := 26) (by decide) a7 p1) (fun _ M4 q => ?_)
      obtain ⟨⟨lt', q1⟩, q2⟩ := q
      have i26 : IsC C M4 26 σ := IsC.eq (fun i k b1 b2 _ => q2 i k (by unfold psS; omega)) a7
      rw [wp_bd]
      refine wp_mono (runOver_spec i26 (show g < 6 by omega) (a2.2.2.2.2.1 g) n30) (fun _ Mc z => ?_)
      obtain ⟨z1, z2⟩ := z
      rw [gd_t (nI_inb (show g < 6 by omega) (by decide)), nI_clamp (by omega), wp_s]
      have hF : Fr stp M Mc := (ps_stp q2).tr (st_stp z2)
      have ge : ∀ i k, 174 ≤ i → Mc i k = M i k := fun i k hi => (z2 i k (by unfold stS; omega)).trans (q2 i k (by unfold psS; omega))
      unfold f_X11_over f_X11_over_0
      have ge2 : ∀ i k, 174 ≤ i → ¬ (i = 174 ∧ k = 14) → up Mc 174 14 0 i k = M i k := fun i k hi hk => by rw [up_at, if_neg hk]; exact ge i k hi
      have m1 : CfR (up Mc 174 14 0) C := a6.eq2 (fun i k q => by
        by_cases hi : 174 ≤ i
        · exact ge2 i k hi (by unfold cHo at q; omega)
        · rw [up_row _ _ _ (by omega)]
          exact (z2 i k (by unfold cHo at q; unfold stS; omega)).trans (q2 i k (by unfold cHo at q; unfold psS; omega)))
      have i175 : IsR C (up Mc 174 14 0 175) σ := IsR.eq c2 (fun k _ => ge2 175 k (by decide) (by omega)) a8
      rw [wp_ml, canOver_t a1 m1 i175 a2.toM hg, bd_e, b2i_t ⟨hi, h1, h2⟩, if_neg (by decide), wp_bd]
      refine wp_mono (remember_spec c2 p1.2.1 i175 (PsR.eq c2 (ge2 174 28 (by decide) (by omega)) (fun k => ge2 188 k (by decide) (by omega)) p2)) (fun _ M7 w => ?_)
      obtain ⟨w1, w2⟩ := w
      have i175' : IsR C (M7 175) σ := IsR.eq c2 (fun k _ => w2 175 k (by unfold rmS; omega)) i175
      rw [wp_bd]
      refine wp_mono (goOver_spec c2 rfl i175' hg (a2.2.2.2.2.1 g) n30) (fun _ Mr v => ?_)
      obtain ⟨v1, v2⟩ := v
      rw [la6, gd_t (nI_inb (show 6 + g < 25 by omega) (by decide)), nI_clamp (by omega), wp_s]
      have lo : ∀ i k, i < 174 → Mr i k = Mc i k := fun i k hi => (v2 i k (by omega)).trans ((w2 i k (by unfold rmS; omega)).trans (by rw [up_row _ _ _ (by omega)]))
      refine ⟨?_, ⟨C, ovr σ g n, mut_fin hI hN p3 hF (((s0_stp fr14).tr (rm_stp w2)).tr (v2.mn (fun i k q => Or.inr (Or.inr (Or.inl q))))) lo z1 (q1.eq (fun i k b1 b2 => z2 i k (by unfold stS; omega))) v1 (w1.eq c2 (v2 174 28 (show ¬ 174 = 175 by decide)) (fun k => v2 188 k (show ¬ 188 = 175 by decide))) (ok_ovr a2 hi) (by show σ.2.2.2.2 ≤ _; omega)⟩, ?_⟩
      · rw [v1.2.1 g hg]
        exact (z1.2.1 g (by omega)).symm
      · exact row_lo hR ((z2 0 16 (by unfold stS; omega)).trans (q2 0 16 (by unfold psS; omega))) (fun k => (z2 173 k (by unfold stS; omega)).trans (q2 173 k (by unfold psS; omega))) lo ((v2 174 13 (show ¬ 174 = 175 by decide)).trans ((w2 174 13 (by unfold rmS; omega)).trans (ge2 174 13 (by decide) (by omega)))) (fun k => (v2 184 k (show ¬ 184 = 175 by decide)).trans ((w2 184 k (by unfold rmS; omega)).trans (ge2 184 k (by decide) (by omega))))
    · rw [b2i_f hi, if_pos rfl, wp_s]; exact bad (fun z => hi z.1)
  · have hno := no (fun M1 h1 _ => canOver_f a1 h1 hx)
    rw [cIns_f a5 hx, bd_e, if_pos rfl]
    simp only [wp_if, wp_s]
    exact ⟨fun _ => hno, fun _ => ⟨fun _ => hno, fun _ => hno⟩⟩
