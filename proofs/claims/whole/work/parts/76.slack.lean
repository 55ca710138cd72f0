/-! late, slack -/
def inB (σ : Sm) : Nat → Bool := fun i => ins (σ.1 i)
theorem ci_inB {C : Cf} {M : Mem} {s : Nat} {σ : Sm} (hC : COk C) (hS : IsC C M s σ) (hO : OkM C σ) : f_X7_bitsInside s M = some (bI (inB σ), M) := ci_ins hC hS hO
theorem ri_inB {C : Cf} {M : Mem} {a : Nat} {σ : Sm} {t : Nat} (hC : COk C) (hM : CfR M C) (hO : OkM C σ) (hR : IsRt C (M a) σ t) (hL : LN a = 25) : f_X11_inside a M = some (bI (inB σ), M) := ri_ins hC hM hO hR hL
theorem pI_p {a : Nat} (h : 0 < a) : pI a = nI (a - 1) := by rw [← pI_s, show a - 1 + 1 = a by omega]
theorem ovr_0 {C : Cf} {σ : Sm} (g : Nat) (hO : Ok C σ) : ovr σ g 0 = σ := by
  refine sm_ext rfl (funext fun k => ?_) rfl rfl rfl
  show fs σ.2.1 g (min 99 (σ.2.1 g + 0)) k = σ.2.1 k
  have := hO.2.2.2.2.1 g
  by_cases e : k = g
  · subst e; rw [fs_s]; omega
  · rw [fs_n _ _ e]
theorem foresee_spec {C : Cf} {M : Mem} {s g n : Nat} {σ : Sm} (hs : s = 36 ∨ s = 41) (hC : COk C) (hM : CfC M C) (hS : IsC C M 26 σ) (hO : Ok C σ) (hi : ins (σ.1 g) = true) (hg : g < C.2.1) (hn : n ≤ 30) (hB : σ.2.2.2.2 < 2 ^ 29) : wp (f_X10_foresee s (nI g) (nI n) M) (fun _ M' => IsC C M' s (mn C 400 (ovr σ g n)) ∧ Fr (stS s) M M') := by
  have c2 := hC.2.1
  unfold f_X10_foresee f_X10_foresee_0
  rw [wp_bd]
  refine wp_mono (copy_spec (s := s) (by omega) hS) (fun _ M2 q => ?_)
  rw [wp_bd]
  refine wp_mono (runOver_spec q.1 (show g < 6 by omega) (hO.2.2.2.2.1 g) hn) (fun _ M3 z => ?_)
  rw [wp_bd]
  refine wp_mono (goOn_spec (k := 400) (by omega) hC (CfC.fr (by omega) c2 (q.2.tr z.2) hM) z.1 (ok_ovr hO hi) (by decide) hB) (fun _ M4 w => ?_)
  rw [wp_s]
  exact ⟨w.1, (q.2.tr z.2).tr w.2⟩
def fwS (a : Nat) : Nat → Nat → Prop := fun i k => i = 191 ∨ i = a ∨ (i = 174 ∧ (k = 30 ∨ k = 31 ∨ k = 32))
/-- what the reference has at hand to ask: stays, where all are -/
def AsR (C : Cf) (σ : Sm) (M : Mem) : Prop := CfR M C ∧ StR M C ∧ IsR C (M 175) σ
theorem AsR.fw {C : Cf} {σ : Sm} {M M' : Mem} {a : Nat} (hc : C.2.1 ≤ 6) (ha : 192 ≤ a) (ha2 : a ≤ 199) (h : AsR C σ M) (hF : Fr (fwS a) M M') : AsR C σ M' := ⟨h.1.eq2 (fun i k z => hF i k (by unfold cHo at z; unfold fwS; omega)), StR.eq (funext fun k => hF 187 k (by unfold fwS; omega)) h.2.1, IsR.eq hc (fun k _ => hF 175 k (by unfold fwS; omega)) h.2.2⟩
def whn (τ : Sm) (i : Nat) : Int32 := if τ.1 i = 10 then pI (τ.2.2.2.1 i) else 1000000
theorem findWhen_spec {C : Cf} {M : Mem} {a g n : Nat} {σ : Sm} (ha : a = 196 ∨ a = 197) (hC : COk C) (hA : AsR C σ M) (hO : Ok C σ) (hi : ins (σ.1 g) = true) (hg : g < C.2.1) (hn : n ≤ 30) : wp (f_X11_findWhen a (nI g) (nI n) M) (fun r M' => r = b2i (bI (inB (mn C 400 (ovr σ g n))) = 0) ∧ (∀ i, i < C.2.1 → M' a i = whn (mn C 400 (ovr σ g n)) i) ∧ Fr (fwS a) M M') := by
  have c2 := hC.2.1
  have hLa : LN a = 6 := by rcases ha with rfl | rfl <;> rfl
  have go : ∀ (M2 : Mem), GoR C (ovr σ g n) M2 → Fr (fwS a) M M2 → wp (f_X11_findWhen_25 a M2) (fun r M' => r = b2i (bI (inB (mn C 400 (ovr σ g n))) = 0) ∧ (∀ i, i < C.2.1 → M' a i = whn (mn C 400 (ovr σ g n)) i) ∧ Fr (fwS a) M M') := by
    intro M2 hG hF
    unfold f_X11_findWhen_25
    rw [wp_bd]
    refine wp_mono (gr_goOn hC (ok_ovr hO hi) hG) (fun _ M3 t => ?_)
    obtain ⟨⟨j, hj, ⟨t1, t2, t3⟩, t4, t5⟩, t6⟩ := t
    have hOj := ok_mn hC j (ok_ovr (n := n) hO hi)
    have hF3 : Fr (fwS a) M M3 := hF.tr (t6.mn (fun i k q => by
      rcases q with q | q
      · exact Or.inl q
      · exact Or.inr (Or.inr q)))
    refine wp_for (α := Unit) (fun m _ x M => f_X11_findWhen_32 a m x M) C.2.1 (fun k _ M4 => (∀ i, i < k → M4 a i = whn (mn C 400 (ovr σ g n)) i) ∧ (∀ i q, i ≠ a → M4 i q = M3 i q)) _ (fun m k _ M4 hk hJ kk => ?_) (fun m _ M4 hJ => ?_) C.2.1 0 FU () M3 (by omega) (by show C.2.1 < 2000; omega) ⟨fun i hi => absurd hi (Nat.not_lt_zero i), fun i q _ => rfl⟩
    · obtain ⟨j1, j2⟩ := hJ
      have hA := at_lt hC hOj.toM k
      have st : ∀ v : Int32, v = whn (mn C 400 (ovr σ g n)) k → wp (f_X11_findWhen_72 (f_X11_findWhen_32 a m) a (nI k) (nI k) v M4) (fun r M' => r = b2i (bI (inB (mn C 400 (ovr σ g n))) = 0) ∧ (∀ i, i < C.2.1 → M' a i = whn (mn C 400 (ovr σ g n)) i) ∧ Fr (fwS a) M M') := by
        intro v hv
        unfold f_X11_findWhen_72
        rw [hLa, gd_t (nI_inb (show k < 6 by omega) (by decide)), nI_clamp (by omega), wp_ml, wp_vl, nI_1]
        refine kk () _ ⟨fun i hi => ?_, fun i q hq => by rw [up_row _ _ _ hq]; exact j2 i q hq⟩
        by_cases e : i = k
        · subst e; rw [up_self]; exact hv
        · rw [up_col _ _ _ e]; exact j1 i (by omega)
      show wp (f_X11_findWhen_32 a (m + 1) (nI k) M4) _
      unfold f_X11_findWhen_32
      rw [j2 174 3 (by omega), t1.2.1, if_pos (nI_lt hk (by omega)), gd_t (nI_inb (show k < 25 by omega) (by decide)), nI_clamp (by omega), j2 191 k (by omega), t3.1 k hk]
      by_cases h10 : (mn C j (ovr σ g n)).1 k = 10
      · rw [if_pos ((pI_9 (by omega)).mpr h10), la18, gd_t (nI_inb (show 18 + k < 25 by omega) (by decide)), nI_clamp (by omega), j2 191 _ (by omega), t3.2.2.2.1 k hk]
        refine st _ ?_
        unfold whn
        rw [← t4, if_pos h10, t5]
      · rw [if_neg (fun z => h10 ((pI_9 (by omega)).mp z))]
        refine st _ ?_
        unfold whn
        rw [← t4, if_neg h10]
    · obtain ⟨j1, j2⟩ := hJ
      show wp (f_X11_findWhen_32 a (m + 1) (nI C.2.1) M4) _
      unfold f_X11_findWhen_32 f_X11_findWhen_95
      have m4 : CfR M4 C := t1.eq2 (fun i k z => j2 i k (by unfold cHo at z; omega))
      have r4 : IsR C (M4 191) (mn C j (ovr σ g n)) := IsR.eq c2 (fun k _ => j2 191 k (by omega)) t3
      have hFin : Fr (fwS a) M M4 := fun i k hn => by
        rw [j2 i k (fun z => hn (Or.inr (Or.inl z)))]
        exact hF3 i k hn
      rw [m4.2.1, if_neg (nI_nlt (Nat.le_refl _) (by omega)), ri_inB hC m4 hOj.toM r4 rfl, bd_e, show inB (mn C j (ovr σ g n)) = inB (mn C 400 (ovr σ g n)) by unfold inB; rw [t4]]
      by_cases hz : bI (inB (mn C 400 (ovr σ g n))) = 0
      · rw [if_pos hz, gd_t (by decide), wp_s, b2i_t hz]; exact ⟨rfl, j1, hFin⟩
      · rw [if_neg hz, gd_t (by decide), wp_s, b2i_f hz]; exact ⟨rfl, j1, hFin⟩
  unfold f_X11_findWhen f_X11_findWhen_0
  rw [wp_bd]
  refine wp_mono (lay191 c2 hA.2.2) (fun _ M2 q => ?_)
  obtain ⟨q1, q2⟩ := q
  have hF2 : Fr (fwS a) M M2 := q2.mn (fun i k z => Or.inl z)
  have g2 : CfR M2 C ∧ StR M2 C := ⟨hA.1.eq2 (fun i k z => q2 i k (by show ¬ i = 191; unfold cHo at z; omega)), StR.eq (funext fun k => q2 187 k (show ¬ 187 = 191 by decide)) hA.2.1⟩
  by_cases h0 : n = 0
  · subst h0
    rw [if_neg (by decide)]
    exact go M2 ⟨g2.1, g2.2, by rw [ovr_0 g hO]; exact q1⟩ hF2
  · rw [if_pos (nIp (by omega) (by omega)), wp_bd]
    refine wp_mono (goOver_spec c2 rfl q1 hg (hO.2.2.2.2.1 g) hn) (fun _ M3 z => ?_)
    obtain ⟨z1, z2⟩ := z
    exact go M3 ⟨g2.1.eq2 (fun i k w => z2 i k (by show ¬ i = 191; unfold cHo at w; omega)), StR.eq (funext fun k => z2 187 k (show ¬ 187 = 191 by decide)) g2.2, z1⟩ (hF2.tr (z2.mn (fun i k w => Or.inl w)))
/-- none inside: all that were are through -/
theorem all_thr {C : Cf} {σ : Sm} {k : Nat} (hC : COk C) (hO : Ok C σ) (hz : bI (fun i => ins ((mn C k σ).1 i)) = 0) {i : Nat} (hi : ins (σ.1 i) = true) : (mn C k σ).1 i = 10 ∧ 0 < (mn C k σ).2.2.2.1 i := by
  have c2 := hC.2.1
  have hOk := ok_mn hC k hO
  have h6 : i < 6 := by
    apply Classical.byContradiction
    intro hn
    rw [hO.2.1 i (by omega)] at hi
    exact absurd hi (by decide)
  have h1 := bI_zero.mp hz i h6
  have h0 := mn_in hC k hO (g := i) (ins_t.mp hi).1
  have h2 : (mn C k σ).1 i = 10 := by
    rcases ins_f.mp h1 with h | h
    · exact absurd h h0
    · exact h
  exact ⟨h2, hOk.2.2.2.2.2.2.2.1 i h2⟩
theorem ltB_fold {ls : Nat → Bool} {c : Nat} (hc : c ≤ 6) (h : ∀ k, c ≤ k → ls k = false) (d : Nat → Nat) : foldF (fun g a => if ls g = true then obit g a else a) c 0 0 = bI ls ∧ foldF (fun g a => if ls g = true then a + d g else a) c 0 0 = sumB ls d := by
  constructor
  · unfold bI
    exact foldF_to 0 hc (fun k x _ => rfl) (fun k x h1 _ => by rw [if_neg (by rw [h k h1]; decide)])
  · unfold sumB
    exact foldF_to 0 hc (fun k x _ => rfl) (fun k x h1 _ => by rw [if_neg (by rw [h k h1]; decide)])
theorem mx_c {p : Nat → Bool} {f : Nat → Nat} {c : Nat} (hc : c ≤ 6) (h : ∀ k, c ≤ k → p k = false) : foldF (fun g a => if p g = true then max a (f g) else a) c 0 0 = mx p f := by
  unfold mx
  exact foldF_to 0 hc (fun k x _ => rfl) (fun k x h1 _ => by rw [if_neg (by rw [h k h1]; decide)])
theorem maxI {a b : Nat} (ha : a < 2 ^ 30) (hb : b < 2 ^ 30) : (if nI a < nI b then nI b else nI a) = nI (max a b) := by
  by_cases h : a < b
  · rw [if_pos (nI_lt h (by omega)), show max a b = b by omega]
  · rw [if_neg (nI_nlt (by omega) (by omega)), show max a b = a by omega]
def lsB (σ A B : Sm) : Nat → Bool := fun i => ins (σ.1 i) && decide (A.2.2.2.1 i < B.2.2.2.1 i)
theorem inB_hi {C : Cf} {σ : Sm} (hO : Ok C σ) {k : Nat} (h : C.2.1 ≤ k) : inB σ k = false := by unfold inB; rw [hO.2.1 k h]; rfl
theorem lsB_hi {C : Cf} {σ A B : Sm} (hO : Ok C σ) {k : Nat} (h : C.2.1 ≤ k) : lsB σ A B k = false := by unfold lsB; rw [hO.2.1 k h]; rfl
theorem late_cls {C : Cf} {M : Mem} {g n : Nat} {σ : Sm} (hC : COk C) (hM : CfC M C) (hS : IsC C M 26 σ) (hO : Ok C σ) (hi : ins (σ.1 g) = true) (hg : g < C.2.1) (n1 : 1 ≤ n) (hn : n ≤ 30) (hB : σ.2.2.2.2 < 2 ^ 29) : wp (f_X10_late (nI g) (nI n) M) (fun r M1 => (∀ i k, 174 ≤ i → M1 i k = M i k) ∧ ((bI (inB (mn C 400 σ)) = 0 ∧ bI (inB (mn C 400 (ovr σ g n))) = 0 ∧ r = nI (mx (inB σ) (mn C 400 (ovr σ g n)).2.2.2.1 - 1) - nI (mx (inB σ) (mn C 400 σ).2.2.2.1 - 1) ∧ RwC M1 [bI (lsB σ (mn C 400 σ) (mn C 400 (ovr σ g n))), nI (sumB (lsB σ (mn C 400 σ) (mn C 400 (ovr σ g n))) (fun i => (mn C 400 (ovr σ g n)).2.2.2.1 i - (mn C 400 σ).2.2.2.1 i))] ∧ Fr scr M M1) ∨ (¬ (bI (inB (mn C 400 σ)) = 0 ∧ bI (inB (mn C 400 (ovr σ g n))) = 0) ∧ r = -2 ∧ Fr scr0 M M1))) := by
  have c2 := hC.2.1
  have hOv : Ok C (ovr σ g n) := ok_ovr hO hi
  have hOA := ok_mn hC 400 hO
  have hOB := ok_mn hC 400 hOv
  have nA : (mn C 400 σ).2.2.2.2 = σ.2.2.2.2 + 400 := mn_now C 400 σ
  have nB : (mn C 400 (ovr σ g n)).2.2.2.2 = σ.2.2.2.2 + 400 := mn_now C 400 (ovr σ g n)
  have tA : ∀ i, (mn C 400 σ).2.2.2.1 i < 2 ^ 30 := fun i => by have := hOA.2.2.2.2.2.2.1 i; omega
  have tB : ∀ i, (mn C 400 (ovr σ g n)).2.2.2.1 i < 2 ^ 30 := fun i => by have := hOB.2.2.2.2.2.2.1 i; omega
  unfold f_X10_late f_X10_late_0 f_X10_late_61
  rw [if_neg (show ¬ nI n < 1 from nI_nlt (b := 1) n1 (by omega)), if_neg (show ¬ 30 < nI n from nI_nlt (a := 30) hn (by decide)), cIns hC hM hS hO.toM hg, bd_e, b2i_t hi, if_neg (by decide), wp_bd]
  refine wp_mono (foresee_spec (n := 0) (Or.inl rfl) hC hM hS hO hi hg (by decide) hB) (fun _ M4 q => ?_)
  obtain ⟨q1, q2⟩ := q
  rw [ovr_0 g hO] at q1
  have i4 : IsC C M4 26 σ := IsC.eq (fun i k e1 e2 _ => q2 i k (by unfold stS; omega)) hS
  rw [wp_bd]
  refine wp_mono (foresee_spec (n := n) (Or.inr rfl) hC (CfC.fr (by decide) c2 q2 hM) i4 hO hi hg hn hB) (fun _ M5 z => ?_)
  obtain ⟨z1, z2⟩ := z
  have iA : IsC C M5 36 (mn C 400 σ) := IsC.eq (fun i k e1 e2 _ => z2 i k (by unfold stS; omega)) q1
  have i26 : IsC C M5 26 σ := IsC.eq (fun i k e1 e2 _ => z2 i k (by unfold stS; omega)) i4
  have m5 : CfC M5 C := CfC.fr (by decide) c2 z2 (CfC.fr (by decide) c2 q2 hM)
  have hF5 : Fr scr0 M M5 := (st_scr (Or.inl (by decide)) q2).tr (st_scr (Or.inl (by decide)) z2)
  have ge5 : ∀ i k, 174 ≤ i → M5 i k = M i k := fun i k hi => (z2 i k (by unfold stS; omega)).trans (q2 i k (by unfold stS; omega))
  rw [ci_inB hC iA hOA.toM, bd_e]
  by_cases hzA : bI (inB (mn C 400 σ)) = 0
  rotate_left
  · rw [if_neg hzA, wp_s]
    exact ⟨ge5, Or.inr ⟨fun z => hzA z.1, rfl, hF5⟩⟩
  rw [if_pos hzA, ci_inB hC z1 hOB.toM, bd_e]
  by_cases hzB : bI (inB (mn C 400 (ovr σ g n))) = 0
  rotate_left
  · rw [if_neg hzB, wp_s]
    exact ⟨ge5, Or.inr ⟨fun z => hzB z.2, rfl, hF5⟩⟩
  rw [if_pos hzB, ci_inB hC i26 hO.toM, bd_e]
  have hiv : ∀ i, ins ((ovr σ g n).1 i) = ins (σ.1 i) := fun i => rfl
  refine wp_for (α := Int32 × Int32) (fun m a x M => f_X10_late_81 m (bI (inB σ)) a.1 a.2 x M) C.2.1 (fun k a M1 => M1 = M5 ∧ a.1 = foldF (fun i b => if lsB σ (mn C 400 σ) (mn C 400 (ovr σ g n)) i = true then obit i b else b) k 0 0 ∧ a.2 = nI (foldF (fun i b => if lsB σ (mn C 400 σ) (mn C 400 (ovr σ g n)) i = true then b + ((mn C 400 (ovr σ g n)).2.2.2.1 i - (mn C 400 σ).2.2.2.1 i) else b) k 0 0)) _ (fun m k a M1 hk hJ kk => ?_) (fun m a M1 hJ => ?_) C.2.1 0 FU (0, 0) M5 (by omega) (by show C.2.1 < 2000; omega) ⟨rfl, rfl, rfl⟩
  · obtain ⟨rfl, j1, j2⟩ := hJ
    show wp (f_X10_late_81 (m + 1) (bI (inB σ)) a.1 a.2 (nI k) M1) _
    have fl1 := foldF_last (fun i b => if lsB σ (mn C 400 σ) (mn C 400 (ovr σ g n)) i = true then obit i b else b) k 0 0
    have fl2 := foldF_last (fun i b => if lsB σ (mn C 400 σ) (mn C 400 (ovr σ g n)) i = true then b + ((mn C 400 (ovr σ g n)).2.2.2.1 i - (mn C 400 σ).2.2.2.1 i) else b) k 0 0
    rw [Nat.zero_add] at fl1 fl2
    have nx1 : lsB σ (mn C 400 σ) (mn C 400 (ovr σ g n)) k = false → wp (f_X10_late_150 (f_X10_late_81 m) (bI (inB σ)) a.1 a.2 (nI k) M1) _ := fun hl => by
      unfold f_X10_late_150
      rw [wp_vl, nI_1]
      exact kk (a.1, a.2) M1 ⟨rfl, by rw [fl1, if_neg (by rw [hl]; decide)]; exact j1, by rw [fl2, if_neg (by rw [hl]; decide)]; exact j2⟩
    unfold f_X10_late_81 f_X10_late_127
    rw [m5.2.1, if_pos (nI_lt hk (by omega)), has_spec, bd_e]
    have hb : bit (bI (inB σ)) (nI k) ↔ ins (σ.1 k) = true := by
      rw [bit_bI _ (by omega)]
      exact ⟨fun z => z.2, fun z => ⟨by omega, z⟩⟩
    by_cases hk2 : ins (σ.1 k) = true
    · rw [b2i_t (hb.mpr hk2), if_neg (by decide)]
      simp only [gd_t (nI_inb (show k < 6 by omega) (show 6 ≤ 1000 by decide))]
      rw [nI_clamp (by omega), wp_vl, z1.2.2.2.1 k (by omega), iA.2.2.2.1 k (by omega)]
      have pA := (all_thr hC hO hzA hk2).2
      have pB := (all_thr hC hOv hzB (i := k) hk2).2
      have ta := tA k
      have tb := tB k
      rw [pI_p pA, pI_p pB]
      by_cases hlt : (mn C 400 σ).2.2.2.1 k < (mn C 400 (ovr σ g n)).2.2.2.1 k
      · have hl : lsB σ (mn C 400 σ) (mn C 400 (ovr σ g n)) k = true := by unfold lsB; rw [hk2]; simp [hlt]
        rw [pk_sub (by omega), if_pos (nIp (by omega) (by omega)), wp_vl, wp_vl]
        unfold f_X10_late_150
        rw [wp_vl, nI_1]
        refine kk (_, _) M1 ⟨rfl, ?_, ?_⟩
        · rw [fl1, if_pos hl, ← j1]; rfl
        · rw [fl2, if_pos hl, j2, nI_add, show (mn C 400 (ovr σ g n)).2.2.2.1 k - 1 - ((mn C 400 σ).2.2.2.1 k - 1) = (mn C 400 (ovr σ g n)).2.2.2.1 k - (mn C 400 σ).2.2.2.1 k by omega]
      · have hl : lsB σ (mn C 400 σ) (mn C 400 (ovr σ g n)) k = false := by unfold lsB; rw [hk2]; simp; omega
        have hn0 : ¬ (0 : Int32) < nI ((mn C 400 (ovr σ g n)).2.2.2.1 k - 1) - nI ((mn C 400 σ).2.2.2.1 k - 1) := by
          by_cases heq : (mn C 400 (ovr σ g n)).2.2.2.1 k = (mn C 400 σ).2.2.2.1 k
          · rw [heq, pk_sub (Nat.le_refl _), Nat.sub_self]; decide
          · have := pk_sneg (a := (mn C 400 (ovr σ g n)).2.2.2.1 k - 1) (b := (mn C 400 σ).2.2.2.1 k - 1) (by omega) (by omega)
            intro z
            rw [Int32.lt_iff_toInt_lt] at this z
            omega
        rw [if_neg hn0]
        exact nx1 hl
    · have hl : lsB σ (mn C 400 σ) (mn C 400 (ovr σ g n)) k = false := by unfold lsB; rw [Bool.eq_false_iff.mpr hk2]; rfl
      rw [b2i_f (fun z => hk2 (hb.mp z)), if_pos rfl, if_neg (by decide)]
      exact nx1 hl
  · obtain ⟨rfl, j1, j2⟩ := hJ
    show wp (f_X10_late_81 (m + 1) (bI (inB σ)) a.1 a.2 (nI C.2.1) M1) _
    unfold f_X10_late_81
    rw [m5.2.1, if_neg (nI_nlt (Nat.le_refl _) (by omega)), wp_bd]
    have lf := ltB_fold (ls := lsB σ (mn C 400 σ) (mn C 400 (ovr σ g n))) c2 (fun k h => lsB_hi hO h) (fun i => (mn C 400 (ovr σ g n)).2.2.2.1 i - (mn C 400 σ).2.2.2.1 i)
    rw [lf.1] at j1
    rw [lf.2] at j2
    refine wp_mono (clearRow_spec M1) (fun _ M6 w => ?_)
    obtain ⟨w1, w2⟩ := w
    rw [wp_bd, j1]
    refine wp_mono (tell_spec _ w1 (by decide)) (fun _ M7 v => ?_)
    obtain ⟨v1, v2⟩ := v
    rw [wp_bd, j2]
    refine wp_mono (tell_spec _ v1 (by show 1 < 12; decide)) (fun _ M8 s => ?_)
    obtain ⟨s1, s2⟩ := s
    have hrc : Fr rcS M1 M8 := (w2.tr v2).tr s2
    rw [ci_last (IsC.eq (fun i k e1 e2 _ => hrc i k (by unfold rcS; omega)) z1) _ (fun i _ => tB i), bd_e, ci_last (IsC.eq (fun i k e1 e2 _ => hrc i k (by unfold rcS; omega)) iA) _ (fun i _ => tA i), bd_e, wp_s]
    refine ⟨fun i k hi => (hrc i k (by unfold rcS; omega)).trans (ge5 i k hi), Or.inl ⟨hzA, hzB, ?_, s1, (s0_scr hF5).tr (rc_scr hrc)⟩⟩
    have g6 : g < 6 := by omega
    have m1 := mx_ge (p := inB σ) (f := (mn C 400 σ).2.2.2.1) g6 hi
    have m2 := mx_ge (p := inB σ) (f := (mn C 400 (ovr σ g n)).2.2.2.1) g6 hi
    have pA := (all_thr hC hO hzA hi).2
    have pB := (all_thr hC hOv hzB (i := g) hi).2
    rw [pI_p (by omega), pI_p (by omega)]
theorem late_ref {N : Nat} {C : Cf} {M Mc : Mem} {g n : Nat} {σ : Sm} (hI : InvE N C σ M) (hge : ∀ i k, 174 ≤ i → Mc i k = M i k) (hi : ins (σ.1 g) = true) (hg : g < C.2.1) (n1 : 1 ≤ n) (hn : n ≤ 30) : wp (f_X11_late (nI g) (nI n) Mc) (fun r M2 => (∀ i k, i < 174 → M2 i k = Mc i k) ∧ ((bI (inB (mn C 400 σ)) = 0 ∧ bI (inB (mn C 400 (ovr σ g n))) = 0 ∧ r = nI (mx (inB σ) (mn C 400 (ovr σ g n)).2.2.2.1 - 1) - nI (mx (inB σ) (mn C 400 σ).2.2.2.1 - 1) ∧ RwR M2 [bI (lsB σ (mn C 400 σ) (mn C 400 (ovr σ g n))), nI (sumB (lsB σ (mn C 400 σ) (mn C 400 (ovr σ g n))) (fun i => (mn C 400 (ovr σ g n)).2.2.2.1 i - (mn C 400 σ).2.2.2.1 i))] ∧ Fr scr Mc M2) ∨ (¬ (bI (inB (mn C 400 σ)) = 0 ∧ bI (inB (mn C 400 (ovr σ g n))) = 0) ∧ r = -2 ∧ Fr scr0 Mc M2))) := by
  obtain ⟨hC, hO, a3, a4, a5, a6, a7, a8, a9⟩ := id hI
  have c2 := hC.2.1
  have hOv : Ok C (ovr σ g n) := ok_ovr hO hi
  have hOA := ok_mn hC 400 hO
  have hOB := ok_mn hC 400 hOv
  have nA : (mn C 400 σ).2.2.2.2 = σ.2.2.2.2 + 400 := mn_now C 400 σ
  have nB : (mn C 400 (ovr σ g n)).2.2.2.2 = σ.2.2.2.2 + 400 := mn_now C 400 (ovr σ g n)
  have tA : ∀ i, (mn C 400 σ).2.2.2.1 i < 2 ^ 30 := fun i => by have := hOA.2.2.2.2.2.2.1 i; omega
  have tB : ∀ i, (mn C 400 (ovr σ g n)).2.2.2.1 i < 2 ^ 30 := fun i => by have := hOB.2.2.2.2.2.2.1 i; omega
  have g14 : ∀ i k, 174 ≤ i → ¬ (i = 174 ∧ k = 14) → up Mc 174 14 0 i k = M i k := fun i k hi hk => by rw [up_at, if_neg hk]; exact hge i k hi
  have m14 : CfR (up Mc 174 14 0) C := CfR.eq (g14 174 1 (by decide) (by omega)) (g14 174 3 (by decide) (by omega)) (fun i k e1 e2 => g14 i k (by omega) (by omega)) a6
  have r14 : IsR C (up Mc 174 14 0 175) σ := IsR.eq c2 (fun k _ => g14 175 k (by decide) (by omega)) a8
  unfold f_X11_late f_X11_late_0 f_X11_late_46
  rw [wp_ml, canOver_t hC m14 r14 hO.toM hg, bd_e, b2i_t ⟨hi, show ¬ nI n < 1 from nI_nlt (b := 1) n1 (by omega), show ¬ 30 < nI n from nI_nlt (a := 30) hn (by decide)⟩, if_neg (by decide), wp_bd]
  refine wp_mono (r_aside hI hge) (fun _ N1 e => ?_)
  obtain ⟨⟨e1, e2, e3⟩, e4, e5⟩ := e
  have as1 : AsR C σ N1 := ⟨e2.1, e1, e3⟩
  rw [wp_bd]
  refine wp_mono (findWhen_spec (n := 0) (Or.inl rfl) hC as1 hO hi hg (by decide)) (fun r9 N2 f => ?_)
  obtain ⟨f1, f2, f3⟩ := f
  rw [ovr_0 g hO] at f1 f2
  have fws0 : ∀ {a : Nat} {X Y : Mem}, 189 ≤ a → a ≤ 199 → Fr (fwS a) X Y → Fr scr0 X Y := fun h1 h2 hF => hF.mn (fun i k q => by
    rcases q with q | q | q
    · exact s0_9x (by omega)
    · exact s0_9x (by omega)
    · exact s0_74 (by omega))
  have lo2 : ∀ i k, i < 174 → N2 i k = Mc i k := fun i k hi => (f3 i k (by unfold fwS; omega)).trans (e5 i k hi)
  by_cases hzA : bI (inB (mn C 400 σ)) = 0
  rotate_left
  · rw [f1, b2i_f hzA, if_pos rfl, wp_s]
    exact ⟨lo2, Or.inr ⟨fun z => hzA z.1, rfl, e4.tr (fws0 (by decide) (by decide) f3)⟩⟩
  rw [f1, b2i_t hzA, if_neg (by decide), wp_bd]
  have as2 : AsR C σ N2 := as1.fw c2 (by decide) (by decide) f3
  refine wp_mono (findWhen_spec (n := n) (Or.inr rfl) hC as2 hO hi hg hn) (fun r13 N3 t => ?_)
  obtain ⟨t1, t2, t3⟩ := t
  have lo3 : ∀ i k, i < 174 → N3 i k = Mc i k := fun i k hi => (t3 i k (by unfold fwS; omega)).trans (lo2 i k hi)
  have hF3 : Fr scr0 Mc N3 := (e4.tr (fws0 (by decide) (by decide) f3)).tr (fws0 (by decide) (by decide) t3)
  by_cases hzB : bI (inB (mn C 400 (ovr σ g n))) = 0
  rotate_left
  · rw [t1, b2i_f hzB, if_pos rfl, wp_s]
    exact ⟨lo3, Or.inr ⟨fun z => hzB z.2, rfl, hF3⟩⟩
  rw [t1, b2i_t hzB, if_neg (by decide)]
  have as3 : AsR C σ N3 := as2.fw c2 (by decide) (by decide) t3
  have w96 : ∀ i, i < C.2.1 → N3 196 i = whn (mn C 400 σ) i := fun i hi => (t3 196 i (by unfold fwS; omega)).trans (f2 i hi)
  refine wp_for (α := Int32 × Int32 × Int32 × Int32) (fun m a x M => f_X11_late_63 m a.1 a.2.1 a.2.2.1 a.2.2.2 x M) C.2.1 (fun k a M1 => M1 = N3 ∧ (∃ u v, u < 2 ^ 30 ∧ v < 2 ^ 30 ∧ a.1 = nI u ∧ a.2.1 = nI v ∧ u = foldF (fun i b => if inB σ i = true then max b ((mn C 400 σ).2.2.2.1 i - 1) else b) k 0 0 ∧ v = foldF (fun i b => if inB σ i = true then max b ((mn C 400 (ovr σ g n)).2.2.2.1 i - 1) else b) k 0 0) ∧ a.2.2.1 = foldF (fun i b => if lsB σ (mn C 400 σ) (mn C 400 (ovr σ g n)) i = true then obit i b else b) k 0 0 ∧ a.2.2.2 = nI (foldF (fun i b => if lsB σ (mn C 400 σ) (mn C 400 (ovr σ g n)) i = true then b + ((mn C 400 (ovr σ g n)).2.2.2.1 i - (mn C 400 σ).2.2.2.1 i) else b) k 0 0)) _ (fun m k a M1 hk hJ kk => ?_) (fun m a M1 hJ => ?_) C.2.1 0 FU (0, 0, 0, 0) N3 (by omega) (by show C.2.1 < 2000; omega) ⟨rfl, ⟨0, 0, by decide, by decide, rfl, rfl, rfl, rfl⟩, rfl, rfl⟩
  · obtain ⟨rfl, ⟨u, v, hu, hv, ju, jv, eu, ev⟩, j1, j2⟩ := hJ
    show wp (f_X11_late_63 (m + 1) a.1 a.2.1 a.2.2.1 a.2.2.2 (nI k) M1) _
    have fl1 := foldF_last (fun i b => if lsB σ (mn C 400 σ) (mn C 400 (ovr σ g n)) i = true then obit i b else b) k 0 0
    have fl2 := foldF_last (fun i b => if lsB σ (mn C 400 σ) (mn C 400 (ovr σ g n)) i = true then b + ((mn C 400 (ovr σ g n)).2.2.2.1 i - (mn C 400 σ).2.2.2.1 i) else b) k 0 0
    have fl3 := foldF_last (fun i b => if inB σ i = true then max b ((mn C 400 σ).2.2.2.1 i - 1) else b) k 0 0
    have fl4 := foldF_last (fun i b => if inB σ i = true then max b ((mn C 400 (ovr σ g n)).2.2.2.1 i - 1) else b) k 0 0
    rw [Nat.zero_add] at fl1 fl2 fl3 fl4
    rw [← eu] at fl3
    rw [← ev] at fl4
    unfold f_X11_late_63 f_X11_late_163
    rw [as3.1.2.1, if_pos (nI_lt hk (by omega)), ri_inside hC hO.toM as3.2.2 rfl hk, bd_e]
    by_cases hk2 : ins (σ.1 k) = true
    · have hin : inB σ k = true := hk2
      obtain ⟨qA, pA⟩ := all_thr hC hO hzA hk2
      obtain ⟨qB, pB⟩ := all_thr hC hOv hzB (i := k) hk2
      have ta := tA k
      have tb := tB k
      have eA : M1 196 k = nI ((mn C 400 σ).2.2.2.1 k - 1) := by rw [w96 k hk]; unfold whn; rw [if_pos qA, pI_p pA]
      have eB : M1 197 k = nI ((mn C 400 (ovr σ g n)).2.2.2.1 k - 1) := by rw [t2 k hk]; unfold whn; rw [if_pos qB, pI_p pB]
      rw [b2i_t hk2, if_neg (by decide)]
      simp only [gd_t (nI_inb (show k < 6 by omega) (show 6 ≤ 1000 by decide))]
      rw [nI_clamp (by omega), eA, eB, ju, jv, maxI hu (by omega), wp_vl, maxI hv (by omega), wp_vl]
      have uv : ∃ u' v', u' < 2 ^ 30 ∧ v' < 2 ^ 30 ∧ nI (max u ((mn C 400 σ).2.2.2.1 k - 1)) = nI u' ∧ nI (max v ((mn C 400 (ovr σ g n)).2.2.2.1 k - 1)) = nI v' ∧ u' = foldF (fun i b => if inB σ i = true then max b ((mn C 400 σ).2.2.2.1 i - 1) else b) (k + 1) 0 0 ∧ v' = foldF (fun i b => if inB σ i = true then max b ((mn C 400 (ovr σ g n)).2.2.2.1 i - 1) else b) (k + 1) 0 0 := ⟨_, _, by omega, by omega, rfl, rfl, by rw [fl3, if_pos hin], by rw [fl4, if_pos hin]⟩
      by_cases hlt : (mn C 400 σ).2.2.2.1 k < (mn C 400 (ovr σ g n)).2.2.2.1 k
      · have hl : lsB σ (mn C 400 σ) (mn C 400 (ovr σ g n)) k = true := by unfold lsB; rw [hk2]; simp [hlt]
        rw [if_pos (nI_lt (by omega) (by omega)), wp_vl, wp_vl, wp_vl, wp_vl, nI_1, pk_sub (by omega)]
        refine kk (_, _, _, _) M1 ⟨rfl, uv, ?_, ?_⟩
        · rw [fl1, if_pos hl, ← j1]; rfl
        · rw [fl2, if_pos hl, j2, nI_add, show (mn C 400 (ovr σ g n)).2.2.2.1 k - 1 - ((mn C 400 σ).2.2.2.1 k - 1) = (mn C 400 (ovr σ g n)).2.2.2.1 k - (mn C 400 σ).2.2.2.1 k by omega]
      · have hl : lsB σ (mn C 400 σ) (mn C 400 (ovr σ g n)) k = false := by unfold lsB; rw [hk2]; simp; omega
        rw [if_neg (nI_nlt (by omega) (by omega)), wp_vl, nI_1]
        exact kk (_, _, a.2.2.1, a.2.2.2) M1 ⟨rfl, uv, by rw [fl1, if_neg (by rw [hl]; decide)]; exact j1, by rw [fl2, if_neg (by rw [hl]; decide)]; exact j2⟩
    · have hin : ¬ inB σ k = true := hk2
      have hl : lsB σ (mn C 400 σ) (mn C 400 (ovr σ g n)) k = false := by unfold lsB; rw [Bool.eq_false_iff.mpr hk2]; rfl
      rw [b2i_f hk2, if_pos rfl, wp_vl, nI_1]
      exact kk a M1 ⟨rfl, ⟨u, v, hu, hv, ju, jv, by rw [fl3, if_neg hin], by rw [fl4, if_neg hin]⟩, by rw [fl1, if_neg (by rw [hl]; decide)]; exact j1, by rw [fl2, if_neg (by rw [hl]; decide)]; exact j2⟩
  · obtain ⟨rfl, ⟨u, v, hu, hv, ju, jv, eu, ev⟩, j1, j2⟩ := hJ
    show wp (f_X11_late_63 (m + 1) a.1 a.2.1 a.2.2.1 a.2.2.2 (nI C.2.1) M1) _
    unfold f_X11_late_63
    have lf := ltB_fold (ls := lsB σ (mn C 400 σ) (mn C 400 (ovr σ g n))) c2 (fun k h => lsB_hi hO h) (fun i => (mn C 400 (ovr σ g n)).2.2.2.1 i - (mn C 400 σ).2.2.2.1 i)
    rw [lf.1] at j1
    rw [lf.2] at j2
    rw [mx_c c2 (fun k h => inB_hi hO h), mx_sub] at eu ev
    rw [as3.1.2.1, if_neg (nI_nlt (Nat.le_refl _) (by omega)), wp_ml]
    obtain ⟨r1, r2⟩ := rowr0 M1
    rw [wp_bd, j1]
    refine wp_mono (tellr_spec _ r1 (by decide)) (fun _ M6 w => ?_)
    obtain ⟨w1, w2⟩ := w
    rw [wp_bd, j2]
    refine wp_mono (tellr_spec _ w1 (by show 1 < 16; decide)) (fun _ M7 y => ?_)
    obtain ⟨y1, y2⟩ := y
    have hrr : Fr rrS M1 M7 := (r2.tr w2).tr y2
    rw [wp_s]
    exact ⟨fun i k hi => (rr_lo hrr hi).trans (lo3 i k hi), Or.inl ⟨hzA, hzB, by rw [ju, jv, eu, ev], y1, (s0_scr hF3).tr (rr_scr hrr)⟩⟩
theorem st_late {N : Nat} {M : Mem} (hN : N < 512) (h : Cpl N M) (x y : Int32) : Both N (f_X10_late x y) (f_X11_late x y) M := by
  obtain ⟨⟨C, σ, hI⟩, hR⟩ := h
  obtain ⟨a1, a2, a3, a4, a5, a6, a7, a8, a9⟩ := id hI
  have c2 := a1.2.1
  have hI' := hI.C14 0
  have done : Cpl (N + 1) (up M 174 14 0) := q_same hI hN hR fr14
  have no : f_X11_canOver x y (up M 174 14 0) = some (0, up M 174 14 0) → wp (f_X11_late x y M) (fun r' M2 => r' = -1 ∧ Cpl (N + 1) M2) := by
    intro hx
    unfold f_X11_late f_X11_late_0
    rw [wp_ml, hx, bd_e, if_pos rfl, wp_s]
    exact ⟨rfl, done⟩
  have noc : wp (f_X11_late x y M) (fun r' M2 => r' = -1 ∧ Cpl (N + 1) M2) → f_X10_late x y M = some (-1, M) → Both N (f_X10_late x y) (f_X11_late x y) M := by
    intro h1 h2
    unfold Both
    rw [h2, wp_s]
    exact h1
  rcases gcase C.2.1 c2 x with ⟨g, hg, rfl⟩ | ⟨hx, _⟩
  rotate_left
  · refine noc (no (canOver_f a1 hI'.2.2.2.2.2.1 hx)) ?_
    unfold f_X10_late f_X10_late_0 f_X10_late_19
    rw [cIns_f a5 hx, bd_e, if_pos rfl]
    split
    · rfl
    · split <;> rfl
  have bad : ¬ (ins (σ.1 g) = true ∧ ¬ y < 1 ∧ ¬ 30 < y) → wp (f_X11_late (nI g) y M) (fun r' M2 => r' = -1 ∧ Cpl (N + 1) M2) := fun hb => no (by rw [canOver_t a1 hI'.2.2.2.2.2.1 hI'.2.2.2.2.2.2.2.1 a2.toM hg, b2i_f hb])
  by_cases h1 : y < 1
  · refine noc (bad (fun z => z.2.1 h1)) ?_
    unfold f_X10_late f_X10_late_0 f_X10_late_19
    rw [if_pos h1]
  by_cases h2 : 30 < y
  · refine noc (bad (fun z => z.2.2 h2)) ?_
    unfold f_X10_late f_X10_late_0 f_X10_late_19
    rw [if_neg h1, if_pos h2]
  by_cases hi : ins (σ.1 g) = true
  rotate_left
  · refine noc (bad (fun z => hi z.1)) ?_
    unfold f_X10_late f_X10_late_0 f_X10_late_19
    rw [if_neg h1, if_neg h2, cIns a1 a5 a7 a2.toM hg, bd_e, b2i_f hi, if_pos rfl]
  obtain ⟨n, n1, n30, rfl⟩ := rng (a := 1) (b := 30) (by decide) (by decide) h1 h2
  unfold Both
  refine wp_mono (late_cls a1 a5 a7 a2 hi hg n1 n30 (by omega)) (fun r Mc q => ?_)
  obtain ⟨q1, q2⟩ := q
  refine wp_mono (late_ref hI q1 hi hg n1 n30) (fun r' Mr z => ?_)
  obtain ⟨z1, z2⟩ := z
  rcases q2 with ⟨b1, b2, b3, b4, b5⟩ | ⟨b1, b2, b3⟩
  · rcases z2 with ⟨d1, d2, d3, d4, d5⟩ | ⟨d1, _⟩
    · exact ⟨by rw [b3, d3], q_row hI hN (b5.tr d5) (by show 2 ≤ 12; decide) (b4.fr (z1 0 16 (by decide)) (funext fun k => z1 173 k (by decide))) d4⟩
    · exact absurd ⟨b1, b2⟩ d1
  · rcases z2 with ⟨d1, d2, d3, d4, d5⟩ | ⟨d1, d2, d3⟩
    · exact absurd ⟨d1, d2⟩ b1
    · exact ⟨by rw [b2, d2], q_same hI hN hR (b3.tr d3)⟩
