/-! least: the reference, and both; leave -/
def fxT (C : Cf) (p : Nat → Bool) (v : Nat) (d : Int32) : Nat → Nat → Int32
  | 0, _ => d
  | m + 1, r => if C.2.2.1 r = false ∧ tog C p r = v then nI r else fxT C p v d m (r + 1)
theorem fxT_0 (C : Cf) (p : Nat → Bool) (v : Nat) : ∀ (m r : Nat), fxT C p v (-1) m r = fwT C p v m r
  | 0, _ => rfl
  | m + 1, r => by unfold fxT fwT; rw [fxT_0 C p v m (r + 1)]
theorem fxT_s (C : Cf) (p : Nat → Bool) (v : Nat) (d : Int32) : ∀ (m r : Nat), fxT C p v d (m + 1) r = fxT C p v (if C.2.2.1 (r + m) = false ∧ tog C p (r + m) = v then nI (r + m) else d) m r
  | 0, r => rfl
  | m + 1, r => by
    have e : fxT C p v d (m + 1 + 1) r = if C.2.2.1 r = false ∧ tog C p r = v then nI r else fxT C p v d (m + 1) (r + 1) := rfl
    rw [e, fxT_s C p v d m (r + 1), show r + 1 + m = r + (m + 1) by omega]
    rfl
theorem least_ref {C : Cf} {M : Mem} (hC : COk C) (hM : CfR M C) (hT : StR M C) {p : Nat → Bool} (hp : ∀ g, C.2.1 ≤ g → p g = false) : wp (f_X11_least_27 FU (bI p) 0 0 M) (fun r M' => r = nI (lstV C p) ∧ RwR M' [fwT C p (lstV C p) C.1 0, bI (bwW C p (lstV C p))] ∧ Fr rrS M M') := by
  have c1 := hC.1
  have c2 := hC.2.1
  have hb : ∀ g, g < C.2.1 → (bit (bI p) (nI g) ↔ p g = true) := fun g hg => by rw [← tb_t, tb_bI (by omega)]
  refine wp_for (α := Int32) (fun m a x M => f_X11_least_27 m (bI p) a x M) C.2.1 (fun k a M2 => M2 = M ∧ a = nI (mxG C p k 0)) _ (fun m g a M2 hg hJ kk => ?_) (fun m a M2 hJ => ?_) C.2.1 0 FU 0 M (by omega) (by show C.2.1 < 2000; omega) ⟨rfl, rfl⟩
  · obtain ⟨rfl, j1⟩ := hJ
    have hw := whl_le hC g
    have hm := mxG_le hC p g (show 0 ≤ 180 by decide)
    have fl : mxG C p (g + 1) 0 = if p g = true then max (mxG C p g 0) (whl C g) else mxG C p g 0 := foldF_sn g _
    show wp (f_X11_least_27 (m + 1) (bI p) a (nI g) M2) _
    unfold f_X11_least_27 f_X11_least_53
    rw [hM.2.1, if_pos (nI_lt hg (by omega)), mhas_spec, bd_e]
    by_cases hpg : p g = true
    · rw [b2i_t ((hb g hg).mpr hpg), if_neg (by decide), r_whole hC hM hT hg, bd_e, wp_vl, wp_vl, nI_1, j1, maxI (by omega) (by omega)]
      exact kk _ M2 ⟨rfl, by rw [fl, if_pos hpg]⟩
    · rw [b2i_f (fun z => hpg ((hb g hg).mp z)), if_pos rfl, wp_vl, nI_1]
      exact kk _ M2 ⟨rfl, by rw [fl, if_neg hpg]; exact j1⟩
  obtain ⟨rfl, j1⟩ := hJ
  have hm0 := mxG_le hC p C.2.1 (show 0 ≤ 180 by decide)
  show wp (f_X11_least_27 (m + 1) (bI p) a (nI C.2.1) M2) _
  unfold f_X11_least_27
  rw [hM.2.1, if_neg (nI_nlt (Nat.le_refl _) (by omega))]
  refine wp_for (α := Int32) (fun m a x M => f_X11_least_61 m (bI p) a x M) C.1 (fun k a M1 => M1 = M2 ∧ a = nI (mxR C p k (mxG C p C.2.1 0))) _ (fun m r a M1 hr hJ kk => ?_) (fun m a M1 hJ => ?_) C.1 0 FU a M2 (by omega) (by show C.1 < 2000; omega) ⟨rfl, j1⟩
  · obtain ⟨rfl, j1⟩ := hJ
    have ht := tog_le hC p r
    have hm := mxR_le hC p r hm0
    have fl : mxR C p (r + 1) (mxG C p C.2.1 0) = if C.2.2.1 r = true then mxR C p r (mxG C p C.2.1 0) else max (mxR C p r (mxG C p C.2.1 0)) (tog C p r) := foldF_sn r _
    show wp (f_X11_least_61 (m + 1) (bI p) a (nI r) M1) _
    unfold f_X11_least_61 f_X11_least_89
    rw [hM.1, if_pos (nI_lt hr (by omega)), gd_t (nI_inb (show r < 6 by omega) (by decide)), nI_clamp (by omega), hM.2.2.1 r hr]
    by_cases hc : C.2.2.1 r = true
    · rw [b2i_t hc, if_neg (by decide), wp_vl, nI_1]
      exact kk _ M1 ⟨rfl, by rw [fl, if_pos hc]; exact j1⟩
    · rw [b2i_f hc, if_pos rfl, r_tog hC hM hT _ hr, bd_e, tog_tb hC, wp_vl, wp_vl, nI_1, j1, maxI (by omega) (by omega)]
      exact kk _ M1 ⟨rfl, by rw [fl, if_neg hc]⟩
  obtain ⟨rfl, j1⟩ := hJ
  have hv : lstV C p ≤ 180 := mxG_le hC p C.2.1 (mxR_le hC p C.1 (show 0 ≤ 180 by decide))
  rw [lstV_sym] at j1
  show wp (f_X11_least_61 (m + 1) (bI p) a (nI C.1) M1) _
  unfold f_X11_least_61
  rw [hM.1, if_neg (nI_nlt (Nat.le_refl _) (by omega)), wp_vl, j1]
  -- rooms from the last one down
  have last : ∀ (y : Int32), y = fwT C p (lstV C p) C.1 0 → wp (f_X11_least_146 FU (bI p) (nI (lstV C p)) y 0 0 M1) (fun r M' => r = nI (lstV C p) ∧ RwR M' [fwT C p (lstV C p) C.1 0, bI (bwW C p (lstV C p))] ∧ Fr rrS M1 M') := by
    intro y hy
    refine wp_for (α := Int32) (fun m a x M => f_X11_least_146 m (bI p) (nI (lstV C p)) y a x M) C.2.1 (fun k a M3 => M3 = M1 ∧ a = foldF (fun g a => if bwW C p (lstV C p) g = true then obit g a else a) k 0 0) _ (fun m g a M3 hg hJ kk => ?_) (fun m a M3 hJ => ?_) C.2.1 0 FU 0 M1 (by omega) (by show C.2.1 < 2000; omega) ⟨rfl, rfl⟩
    · obtain ⟨rfl, k1⟩ := hJ
      have hw := whl_le hC g
      have fl := foldF_last (fun g a => if bwW C p (lstV C p) g = true then obit g a else a) g 0 (0 : Int32)
      rw [Nat.zero_add] at fl
      show wp (f_X11_least_146 (m + 1) (bI p) (nI (lstV C p)) y a (nI g) M3) _
      unfold f_X11_least_146 f_X11_least_183 f_X11_least_184
      rw [hM.2.1, if_pos (nI_lt hg (by omega)), mhas_spec, bd_e]
      by_cases hpg : p g = true
      · rw [b2i_t ((hb g hg).mpr hpg), if_neg (by decide), r_whole hC hM hT hg, bd_e]
        by_cases hv2 : whl C g = lstV C p
        · rw [if_pos (by rw [hv2]), wp_vl, wp_vl, nI_1]
          exact kk _ M3 ⟨rfl, by rw [fl, if_pos (by unfold bwW; simp [hpg, hg, hv2]), ← k1]; rfl⟩
        · rw [if_neg (fun z => hv2 ((nI_eq (by omega) (by omega)).mp z)), wp_vl, wp_vl, nI_1, or0]
          exact kk _ M3 ⟨rfl, by rw [fl, if_neg (by unfold bwW; simp [hv2])]; exact k1⟩
      · rw [b2i_f (fun z => hpg ((hb g hg).mp z)), if_pos rfl, wp_vl, wp_vl, nI_1, or0]
        exact kk _ M3 ⟨rfl, by rw [fl, if_neg (by unfold bwW; simp [hpg])]; exact k1⟩
    · obtain ⟨rfl, k1⟩ := hJ
      have ef : foldF (fun g a => if bwW C p (lstV C p) g = true then obit g a else a) C.2.1 0 0 = bI (bwW C p (lstV C p)) := by
        unfold bI
        exact foldF_to 0 c2 (fun k x _ => rfl) (fun k x h1 _ => by rw [if_neg (by unfold bwW; simp; omega)])
      rw [ef] at k1
      show wp (f_X11_least_146 (m + 1) (bI p) (nI (lstV C p)) y a (nI C.2.1) M3) _
      unfold f_X11_least_146
      rw [hM.2.1, if_neg (nI_nlt (Nat.le_refl _) (by omega)), wp_ml]
      obtain ⟨r1, r2⟩ := rowr0 M3
      rw [wp_bd, hy]
      refine wp_mono (tellr_spec _ r1 (by decide)) (fun _ N3 s => ?_)
      rw [wp_bd, k1]
      refine wp_mono (tellr_spec _ s.1 (by show 1 < 16; decide)) (fun _ N4 u => ?_)
      rw [wp_s]
      exact ⟨rfl, u.1, (r2.tr s.2).tr u.2⟩
  have down : ∀ (k n : Nat) (y : Int32), k ≤ C.1 → k < n → fxT C p (lstV C p) y k 0 = fwT C p (lstV C p) C.1 0 → wp (f_X11_least_108 n (bI p) (nI (lstV C p)) y 0 (pI k) M1) (fun r M' => r = nI (lstV C p) ∧ RwR M' [fwT C p (lstV C p) C.1 0, bI (bwW C p (lstV C p))] ∧ Fr rrS M1 M') := by
    intro k
    induction k with
    | zero =>
      intro n y hk hn he
      obtain ⟨n, rfl⟩ : ∃ n', n = n' + 1 := ⟨n - 1, by omega⟩
      unfold f_X11_least_108
      rw [if_pos (by decide)]
      exact last y he
    | succ k ih =>
      intro n y hk hn he
      obtain ⟨n, rfl⟩ : ∃ n', n = n' + 1 := ⟨n - 1, by omega⟩
      have hr : k < C.1 := by omega
      have ht := tog_le hC p k
      rw [fxT_s, Nat.zero_add] at he
      unfold f_X11_least_108 f_X11_least_137
      rw [pI_s, if_neg (nI_pos (by omega)), gd_t (nI_inb (show k < 6 by omega) (by decide)), nI_clamp (by omega), hM.2.2.1 k hr, show nI k + -1 = pI k from (Int32.sub_eq_add_neg _ _).symm]
      by_cases hc : C.2.2.1 k = true
      · rw [b2i_t hc, if_neg (by decide), wp_vl]
        rw [if_neg (show ¬ (C.2.2.1 k = false ∧ tog C p k = lstV C p) by rw [hc]; simp)] at he
        exact ih n y (by omega) (by omega) he
      · rw [b2i_f hc, if_pos rfl, r_tog hC hM hT _ hr, bd_e, tog_tb hC]
        by_cases hv2 : tog C p k = lstV C p
        · rw [if_pos (by rw [hv2]), wp_vl]
          rw [if_pos ⟨Bool.eq_false_iff.mpr hc, hv2⟩] at he
          exact ih n (nI k) (by omega) (by omega) he
        · rw [if_neg (fun z => hv2 ((nI_eq (by omega) (by omega)).mp z)), wp_vl]
          rw [if_neg (fun z => hv2 z.2)] at he
          exact ih n y (by omega) (by omega) he
  exact down C.1 FU (-1) (Nat.le_refl _) (by show C.1 < 2000; omega) (fxT_0 C p (lstV C p) C.1 0)
theorem st_least {N : Nat} {M : Mem} (hN : N < 512) (h : Cpl N M) (x : Int32) : Both N (f_X10_least x) (f_X11_least x) M := by
  obtain ⟨⟨C, σ, hI⟩, hR⟩ := h
  obtain ⟨a1, a2, a3, a4, a5, a6, a7, a8, a9⟩ := id hI
  have c2 := a1.2.1
  by_cases hx : ∃ p : Nat → Bool, x = bI p ∧ ∀ g, C.2.1 ≤ g → p g = false
  · obtain ⟨p, rfl, hp⟩ := hx
    unfold Both
    refine wp_mono (least_cls a1 a5 hp) (fun r Mc q => ?_)
    obtain ⟨q1, q2, q3⟩ := q
    have hge : ∀ i k, 174 ≤ i → Mc i k = M i k := fun i k hi => q3 i k (by unfold rcS; omega)
    obtain ⟨n14, -, -⟩ := C14g (Mc := Mc) hI hge
    unfold f_X11_least f_X11_least_0
    have hin := (there_in c2 (bI p)).mpr ⟨p, rfl, hp⟩
    rw [wp_ml, ri_every a1 n14, bd_e, in_t _ hin.1 hin.2, bd_e, if_neg (by decide), wp_bd]
    refine wp_mono (r_aside hI hge) (fun _ N1 e => ?_)
    obtain ⟨⟨e1, e2, e3⟩, e4, e5⟩ := e
    refine wp_mono (least_ref a1 e2.1 e1 hp) (fun r' Mr z => ?_)
    obtain ⟨z1, z2, z3⟩ := z
    have lo : ∀ i k, i < 174 → Mr i k = Mc i k := fun i k hi => by rw [rr_lo z3 hi, e5 i k hi]
    exact ⟨by rw [q1, z1], q_row hI hN (((rc_scr q3).tr (s0_scr e4)).tr (rr_scr z3)) (by show 2 ≤ 12; decide) (q2.fr (lo 0 16 (by decide)) (funext fun k => lo 173 k (by decide))) z2⟩
  · obtain ⟨m14, -, -⟩ := C14g (Mc := M) hI (fun _ _ _ => rfl)
    unfold Both f_X10_least f_X10_least_0 f_X11_least f_X11_least_0
    rw [c_there a1 a5, bd_e, b2i_f (fun z => hx ((there_iff c2 x).mp z)), if_pos rfl, wp_s, wp_ml, ri_every a1 m14, bd_e, in_spec, bd_e, b2i_f (fun z => hx ((there_in c2 x).mp z)), if_pos rfl, wp_s]
    exact ⟨rfl, q_same hI hN hR fr14⟩
/-! what changes the stays -/
def C' (C : Cf) (s : Nat → Nat → Nat) : Cf := (C.1, C.2.1, C.2.2.1, C.2.2.2.1, C.2.2.2.2.1, s)
def nst (M : Mem) (C : Cf) (R : Nat) (t : Nat → Nat) (g r : Nat) : Nat := (stV M C R t g r).toNatClampNeg
theorem nst_ok (M : Mem) (C : Cf) (R : Nat) (t : Nat → Nat) (g r : Nat) : nst M C R t g r ≤ 30 ∧ nI (nst M C R t g r) = stV M C R t g r := by
  obtain ⟨k, h1, h2⟩ := stW_n C R t (M 8 g) (M (10 + g) r) (M 6 g) g r
  have e : nst M C R t g r = k := by
    unfold nst stV
    rw [h2, nI_clamp (by omega)]
  rw [e]
  exact ⟨h1, by unfold stV; rw [h2]⟩
theorem Ok.c' {C : Cf} {σ : Sm} (s : Nat → Nat → Nat) (h : Ok C σ) : Ok (C' C s) σ := h
theorem IsC.c' {C : Cf} {M : Mem} {i : Nat} {σ : Sm} (s : Nat → Nat → Nat) (h : IsC C M i σ) : IsC (C' C s) M i σ := h
theorem IsR.c' {C : Cf} {f : Nat → Int32} {σ : Sm} (s : Nat → Nat → Nat) (h : IsR C f σ) : IsR (C' C s) f σ := h
theorem HsC.of {M : Mem} {C : Cf} (h : CfC M C) : HsC M C := ⟨h.1, h.2.1, h.2.2.1, fun g hg => (h.2.2.2 g hg).1⟩
/-- the house as it is but for stays: reckoned anew, all holds again -/
def reX : Nat → Nat → Prop := fun i k => scr i k ∨ i = 5 ∨ i = 6 ∨ i = 8 ∨ (10 ≤ i ∧ i ≤ 15) ∨ (17 ≤ i ∧ i ≤ 22) ∨ i = 24 ∨ i = 178 ∨ i = 179 ∨ i = 181 ∨ i = 182 ∨ i = 186 ∨ (i = 23 ∧ k = 1) ∨ (i = 174 ∧ k = 22)
theorem InvE.re {N : Nat} {C : Cf} {σ : Sm} {M M' : Mem} {R : Nat} {t : Nat → Nat} (h : InvE N C σ M) (hN : N < 512) (hF : Fr reX M M') (hDt : DtE M' C) (hRu : RuC M' R t) (hRr : RuR M' R t) (hst : ∀ g, g < C.2.1 → ∀ r, r < C.1 → M' (17 + g) r = stV M' C R t g r) : InvE (N + 1) (C' C (nst M' C R t)) σ M' := by
  obtain ⟨a1, a2, a3, a4, a5, a6, a7, a8, a9, a10, a11, a12, a13, a14⟩ := h
  have c2 := a1.2.1
  refine ⟨⟨a1.1, a1.2.1, fun g r => (nst_ok M' C R t g r).1, a1.2.2.2.1, a1.2.2.2.2⟩, a2, by omega, hN, ?_, ?_, IsC.eq (fun i k e1 e2 e3 => hF i k (by unfold reX scr scr0; omega)) a7, IsR.eq c2 (fun k _ => hF 175 k (by unfold reX scr scr0; omega)) a8, a9.eq (fun i k q => hF i k (by unfold cTx at q; unfold reX scr scr0; omega)), hDt, ?_, ?_, ?_, ?_⟩
  · obtain ⟨b1, b2, b3, b4⟩ := a5
    have d3 : ∀ k, M' 3 k = M 3 k := fun k => hF 3 k (by unfold reX scr scr0; omega)
    refine ⟨(d3 0).trans b1, (d3 2).trans b2, fun r hr => by rw [d3 1]; exact b3 r hr, fun g hg => ⟨(hF 7 g (by unfold reX scr scr0; omega)).trans (b4 g hg).1, (hF 4 g (by unfold reX scr scr0; omega)).trans (b4 g hg).2.1, fun r hr => ?_⟩⟩
    rw [hst g hg r hr]
    exact (nst_ok M' C R t g r).2.symm
  · obtain ⟨b1, b2, b3, b4⟩ := a6
    exact ⟨(hF 174 1 (by unfold reX scr scr0; omega)).trans b1, (hF 174 3 (by unfold reX scr scr0; omega)).trans b2, fun r hr => (hF 176 r (by unfold reX scr scr0; omega)).trans (b3 r hr), fun g hg => ⟨(hF 180 g (by unfold reX scr scr0; omega)).trans (b4 g hg).1, (hF 177 g (by unfold reX scr scr0; omega)).trans (b4 g hg).2⟩⟩
  · exact ⟨R, t, hRu, hRr, fun g hg r hr => (nst_ok M' C R t g r).2⟩
  · exact PsE.eq (C := C) c2 (Nat.le_succ N) (fun i k q => hF i k (by unfold cPs at q; unfold reX scr scr0; omega)) a12
  · exact KpE.eq (C := C) c2 (Nat.le_succ N) (fun i k q => hF i k (by unfold cKp at q; unfold reX scr scr0; omega)) a13
  · exact HdE.eq (C := C) (fun i k q => hF i k (by unfold cHd at q; unfold reX scr scr0; omega)) a14
theorem st_leave {N : Nat} {M : Mem} (hN : N < 512) (h : Cpl N M) (x y : Int32) : Both N (f_X10_leave x y) (f_X11_leave x y) M := by
  obtain ⟨⟨C, σ, hI⟩, hR⟩ := h
  obtain ⟨a1, a2, a3, a4, a5, a6, a7, a8, a9, a10, ⟨R, t, b1, b2, b3⟩, a12⟩ := id hI
  have c1 := a1.1
  have c2 := a1.2.1
  have h64 := pow6 c1
  obtain ⟨m14, -, -⟩ := C14g (Mc := M) hI (fun _ _ _ => rfl)
  have done : Cpl (N + 1) (up M 174 14 0) := q_same hI hN hR fr14
  have e1s : (1 <<< (nI C.1 &&& 31) : Int32) = nI (2 ^ C.1) := by
    have key : ∀ c, c < 7 → (1 <<< (nI c &&& 31) : Int32) = nI (2 ^ c) := by decide
    exact key C.1 (by omega)
  have hp2 := Nat.two_pow_pos C.1
  unfold Both f_X10_leave f_X10_leave_0 f_X10_leave_28 f_X11_leave f_X11_leave_0 f_X11_leave_29
  rcases gcase C.2.1 c2 x with ⟨g, hg, rfl⟩ | ⟨hx, _⟩
  rotate_left
  · rw [hasG_f a5 hx, bd_e, if_pos rfl, wp_s, wp_ml, isG_f a1 m14 hx, bd_e, if_pos rfl, wp_s]
    exact ⟨rfl, done⟩
  rw [hasG_t a1 a5 hg, bd_e, if_neg (by decide), a5.1, e1s]
  by_cases h1 : y < 0
  · rw [if_pos h1, wp_s, wp_ml, isG_t a1 m14 hg, bd_e, if_neg (by decide), in_f1 _ h1, bd_e, if_pos rfl, wp_s]
    exact ⟨rfl, done⟩
  rw [if_neg h1]
  obtain ⟨n, hn, rfl⟩ := nI_of h1
  by_cases h2 : n < 2 ^ C.1
  rotate_left
  · rw [if_neg (nI_nlt (by omega) hn), wp_s, wp_ml, isG_t a1 m14 hg, bd_e, if_neg (by decide), m14.1, e1s, nI_sub1 (by omega), in_f2 _ (nI_lt (by omega) hn), bd_e, if_pos rfl, wp_s]
    exact ⟨rfl, done⟩
  rw [if_pos (nI_lt h2 (by omega))]
  simp only [gd_t (nI_inc (show g < 6 by omega) (show 6 ≤ 1000 by decide)), nI_clamp (show g < 2 ^ 31 by omega)]
  rw [wp_vl, wp_ml, wp_bd]
  have hH : HsC (up M 8 g (nI n)) C := (HsC.of a5).fr (fun i k hi => by rw [up_row _ _ _ (by omega)])
  have hRu : RuC (up M 8 g (nI n)) R t := b1.fr (by rw [up_row _ _ _ (by decide)]) (fun k => by rw [up_row _ _ _ (by decide)])
  refine wp_mono (reckon_spec c1 c2 hH hRu) (fun _ Mc q => ?_)
  obtain ⟨q1, q2⟩ := q
  have ec : ∀ i k, ¬ (i = 8 ∧ k = g) → ¬ reS i k → Mc i k = M i k := fun i k h1 h2 => by rw [q2 i k h2, up_at, if_neg h1]
  have hge : ∀ i k, 174 ≤ i → Mc i k = M i k := fun i k hi => ec i k (by omega) (by unfold reS; omega)
  obtain ⟨n14, -, -⟩ := C14g (Mc := Mc) hI hge
  rw [wp_s, wp_ml, isG_t a1 n14 hg, bd_e, if_neg (by decide), n14.1, e1s, nI_sub1 (by omega), in_t _ h1 (nI_nlt (by omega) (by omega)), bd_e, if_neg (by decide), wp_vl, wp_ml, wp_s, up_row _ _ _ (by decide), hge 182 g (by decide), (a10 g hg).2.2.1]
  have er : ∀ i k, ¬ (i = 182 ∧ k = g) → ¬ (i = 174 ∧ k = 14) → up (up Mc 174 14 0) 182 g (nI n) i k = Mc i k := fun i k h1 h2 => by rw [up_at, if_neg h1, up_at, if_neg h2]
  have e8 : Mc 8 = (up M 8 g (nI n)) 8 := funext fun k => q2 8 k (by unfold reS; omega)
  have e0 : ∀ i k, ¬ (i = 8 ∧ k = g) → ¬ reS i k → ¬ (i = 182 ∧ k = g) → ¬ (i = 174 ∧ k = 14) → up (up Mc 174 14 0) 182 g (nI n) i k = M i k := fun i k h1 h2 h3 h4 => (er i k h3 h4).trans (ec i k h1 h2)
  refine ⟨rfl, ⟨C' C (nst (up (up Mc 174 14 0) 182 g (nI n)) C R t), σ, hI.re (R := R) (t := t) hN ?_ ?_ ?_ ?_ ?_⟩, ?_⟩
  · intro i k hn
    unfold reX scr scr0 at hn
    exact e0 i k (by omega) (by unfold reS; omega) (by omega) (by omega)
  · intro j hj
    obtain ⟨d1, d2, d3, d4, d5, d6⟩ := a10 j hj
    refine ⟨?_, ?_, ?_, ?_, ?_, fun r hr => ?_⟩
    · rw [e0 5 j (by omega) (by unfold reS; omega) (by omega) (by omega), e0 178 j (by omega) (by unfold reS; omega) (by omega) (by omega)]; exact d1
    · rw [e0 6 j (by omega) (by unfold reS; omega) (by omega) (by omega), e0 179 j (by omega) (by unfold reS; omega) (by omega) (by omega)]; exact d2
    · by_cases ej : j = g
      · subst ej
        rw [er 8 j (by omega) (by omega), e8, up_self, up_self]
      · rw [e0 8 j (by omega) (by unfold reS; omega) (by omega) (by omega), e0 182 j (by omega) (by unfold reS; omega) (by omega) (by omega)]; exact d3
    · obtain ⟨z, z1, z2, z3⟩ := d4
      exact ⟨z, z1, z2, (e0 6 j (by omega) (by unfold reS; omega) (by omega) (by omega)).trans z3⟩
    · obtain ⟨z, z1, z2⟩ := d5
      exact ⟨z, z1, (e0 5 j (by omega) (by unfold reS; omega) (by omega) (by omega)).trans z2⟩
    · obtain ⟨f1, z, z1, z2⟩ := d6 r hr
      refine ⟨?_, z, z1, (e0 (10 + j) r (by omega) (by unfold reS; omega) (by omega) (by omega)).trans z2⟩
      rw [e0 (10 + j) r (by omega) (by unfold reS; omega) (by omega) (by omega), e0 181 _ (by omega) (by unfold reS; omega) (by omega) (by omega)]; exact f1
  · exact hRu.fr ((er 23 1 (by omega) (by omega)).trans (q2 23 1 (by unfold reS; omega))) (fun k => (er 24 k (by omega) (by omega)).trans (q2 24 k (by unfold reS; omega)))
  · exact b2.fr (e0 174 22 (by omega) (by unfold reS; omega) (by omega) (by omega)) (fun k => e0 186 k (by omega) (by unfold reS; omega) (by omega) (by omega))
  · intro j hj r hr
    rw [er (17 + j) r (by omega) (by omega), q1 j hj r hr]
    unfold stV
    rw [er 8 j (by omega) (by omega), er (10 + j) r (by omega) (by omega), er 6 j (by omega) (by omega), q2 8 j (by unfold reS; omega), q2 (10 + j) r (by unfold reS; omega), q2 6 j (by unfold reS; omega)]
  · exact row_ne hR (fun i k q => e0 i k (by omega) (by unfold reS; omega) (by omega) (by omega))
