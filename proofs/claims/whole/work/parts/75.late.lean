/-! those in rooms go on for 400 minutes: stuck, late, slack -/
theorem first_none {C : Cf} {σ : Sm} (h : ∀ g, ins (σ.1 g) = false) : first C σ = none := fstF_none.mpr (fun g _ _ => by unfold can; rw [h g]; rfl)
theorem minute_still {C : Cf} {σ : Sm} (hO : Ok C σ) (h : ∀ g, ins (σ.1 g) = false) : minute C σ = std 1 σ := by
  have hl : ∀ g, σ.2.1 g = 0 := fun g => hO.2.2.1 g (h g)
  rw [minute_quiet (first_none h) (fun g hg => by rw [hl g] at hg; omega)]
  refine sm_ext rfl (funext fun g => ?_) (funext fun g => ?_) rfl rfl
  · show (if 0 < σ.2.1 g then σ.2.1 g - 1 else σ.2.1 g) = σ.2.1 g
    rw [hl g]; rfl
  · show (if wtb σ g = true then σ.2.2.1 g + 1 else σ.2.2.1 g) = σ.2.2.1 g
    rw [if_neg (by unfold wtb; rw [h g]; simp)]
theorem mn_still {C : Cf} : ∀ (k : Nat) {σ : Sm}, Ok C σ → (∀ g, ins (σ.1 g) = false) → mn C k σ = std k σ
  | 0, σ, _, _ => rfl
  | k + 1, σ, hO, h => by
    show mn C k (minute C σ) = _
    rw [minute_still hO h, mn_still k (ok_std 1 hO) h]
    refine sm_ext rfl rfl rfl rfl ?_
    show σ.2.2.2.2 + 1 + k = σ.2.2.2.2 + (k + 1)
    omega
theorem gr_goOn {C : Cf} {σ : Sm} {M : Mem} (hC : COk C) (hO : Ok C σ) (hG : GoR C σ M) : wp (f_X11_goOn M) (fun _ M' => (∃ j, j ≤ 400 ∧ GoR C (mn C j σ) M' ∧ (mn C j σ).1 = (mn C 400 σ).1 ∧ (mn C j σ).2.2.2.1 = (mn C 400 σ).2.2.2.1) ∧ Fr (mnS 191) M M') := by
  unfold f_X11_goOn f_X11_goOn_0
  refine wp_for (α := Unit) (fun m _ x M => f_X11_goOn_2 m x M) 400 (fun k _ M1 => GoR C (mn C k σ) M1 ∧ Fr (mnS 191) M M1) _ (fun m k _ M1 hk hJ kk => ?_) (fun m _ M1 hJ => ?_) 400 0 FU () M (by omega) (by decide) ⟨hG, Fr.rf⟩
  · have hOk := ok_mn hC k hO
    show wp (f_X11_goOn_2 (m + 1) (nI k) M1) _
    unfold f_X11_goOn_2 f_X11_goOn_34
    rw [if_pos (show nI k < 400 from nI_lt (b := 400) hk (by decide)), ri_ins hC hJ.1.1 hOk.toM hJ.1.2.2 rfl, bd_e]
    by_cases hz : bI (fun g => ins ((mn C k σ).1 g)) = 0
    · rw [if_pos hz, wp_s]
      have hn : ∀ g, ins ((mn C k σ).1 g) = false := fun g => by
        by_cases h6 : g < 6
        · exact bI_zero.mp hz g h6
        · have := hC.2.1
          rw [hOk.2.1 g (by omega)]; rfl
      have e : mn C 400 σ = std (400 - k) (mn C k σ) := by
        rw [← mn_still (C := C) (400 - k) hOk hn, ← mn_add, show k + (400 - k) = 400 by omega]
      exact ⟨⟨k, by omega, hJ.1, by rw [e]; rfl, by rw [e]; rfl⟩, hJ.2⟩
    · rw [if_neg hz, wp_bd]
      refine wp_mono (hJ.1.mn hC hOk) (fun _ M2 t => ?_)
      rw [wp_vl, nI_1]
      exact kk () M2 ⟨by rw [mn_s]; exact t.1, hJ.2.tr t.2⟩
  · show wp (f_X11_goOn_2 (m + 1) (nI 400) M1) _
    unfold f_X11_goOn_2 f_X11_goOn_34
    rw [if_neg (by decide), wp_s]
    exact ⟨⟨400, by decide, hJ.1, rfl, rfl⟩, hJ.2⟩
/-- the greatest of those that p says -/
def mx (p : Nat → Bool) (f : Nat → Nat) : Nat := foldF (fun g a => if p g = true then max a (f g) else a) 6 0 0
theorem foldF_hom {α β : Type} {R : α → β → Prop} {f : Nat → α → α} {f' : Nat → β → β} : ∀ (m g : Nat) (a : α) (b : β), R a b → (∀ k x y, g ≤ k → k < g + m → R x y → R (f k x) (f' k y)) → R (foldF f m g a) (foldF f' m g b)
  | 0, _, _, _, h, _ => h
  | m + 1, g, a, b, h, hs => by
    show R (foldF f m (g + 1) (f g a)) (foldF f' m (g + 1) (f' g b))
    exact foldF_hom m (g + 1) _ _ (hs g a b (Nat.le_refl _) (by omega) h) (fun k x y h1 h2 h3 => hs k x y (by omega) (by omega) h3)
theorem mx_ge {p : Nat → Bool} {f : Nat → Nat} {g : Nat} (hg : g < 6) (hp : p g = true) : f g ≤ mx p f := by
  have key : ∀ (m g0 a : Nat), a ≤ foldF (fun g a => if p g = true then max a (f g) else a) m g0 a ∧ (g0 ≤ g → g < g0 + m → f g ≤ foldF (fun g a => if p g = true then max a (f g) else a) m g0 a) := by
    intro m
    induction m with
    | zero => intro g0 a; exact ⟨Nat.le_refl _, fun h1 h2 => by omega⟩
    | succ m ih =>
      intro g0 a
      obtain ⟨i1, i2⟩ := ih (g0 + 1) (if p g0 = true then max a (f g0) else a)
      have hle : a ≤ (if p g0 = true then max a (f g0) else a) := by split <;> omega
      refine ⟨Nat.le_trans hle i1, fun h1 h2 => ?_⟩
      by_cases e : g = g0
      · subst e
        rw [if_pos hp] at i1
        exact Nat.le_trans (Nat.le_max_right _ _) (by show _ ≤ foldF _ m (g + 1) (if p g = true then _ else _); rw [if_pos hp]; exact i1)
      · exact i2 (by omega) (by omega)
  exact (key 6 0 0).2 (Nat.zero_le _) (by omega)
theorem mx_le {p : Nat → Bool} {f : Nat → Nat} {B : Nat} (h : ∀ g, g < 6 → f g ≤ B) : mx p f ≤ B := by
  refine foldF_hom (R := fun (a : Nat) (_ : Unit) => a ≤ B) (f' := fun _ _ => ()) 6 0 0 () (Nat.zero_le _) (fun k x y _ hk hx => ?_)
  have := h k (by omega)
  show (if p k = true then max x (f k) else x) ≤ B
  split <;> omega
theorem mx_sub (p : Nat → Bool) (f : Nat → Nat) (c : Nat) : mx p (fun g => f g - c) = mx p f - c := by
  refine foldF_hom (R := fun (a b : Nat) => a = b - c) 6 0 0 0 (by omega) (fun k x y _ _ hx => ?_)
  show (if p k = true then max x (f k - c) else x) = (if p k = true then max y (f k) else y) - c
  split <;> omega
theorem ci_last {C : Cf} {M : Mem} {s : Nat} {σ : Sm} (hS : IsC C M s σ) (p : Nat → Bool) (hB : ∀ g, g < 6 → σ.2.2.2.1 g < 2 ^ 30) : f_X7_lastThrough s (bI p) M = some (pI (mx p σ.2.2.2.1), M) := by
  rw [lastThrough_spec]
  congr 2
  have h := foldF_hom (R := fun (a : Int32) (b : Nat) => a = pI b ∧ b < 2 ^ 30) (f := fun g a => if bit (bI p) (nI g) then (if a < M (s + 4) g then M (s + 4) g else a) else a) (f' := fun g a => if p g = true then max a (σ.2.2.2.1 g) else a) 6 0 (-1) 0 ⟨by decide, by decide⟩ (fun k x y _ hk hx => ?_)
  · exact h.1
  · have hk6 : k < 6 := by omega
    have hbk := hB k hk6
    have hb : bit (bI p) (nI k) ↔ p k = true := by
      rw [bit_bI p (by omega)]
      exact ⟨fun z => z.2, fun z => ⟨hk6, z⟩⟩
    show (if bit (bI p) (nI k) then _ else _) = pI (if p k = true then _ else _) ∧ _
    by_cases hp : p k = true
    · rw [if_pos (hb.mpr hp), hS.2.2.2.1 k hk6, hx.1]
      simp only [if_pos hp]
      have hy := hx.2
      by_cases hlt : y < σ.2.2.2.1 k
      · rw [if_pos ((pI_lt (by omega) (by omega)).mpr hlt), show max y (σ.2.2.2.1 k) = σ.2.2.2.1 k by omega]
        exact ⟨rfl, hbk⟩
      · rw [if_neg (fun z => hlt ((pI_lt (by omega) (by omega)).mp z)), show max y (σ.2.2.2.1 k) = y by omega]
        exact ⟨rfl, hy⟩
    · rw [if_neg (fun z => hp (hb.mp z))]
      simp only [hp]
      exact hx
/-- one in a room is never outside again; who gets through does so from now on -/
theorem put_thr (C : Cf) (σ : Sm) (g a : Nat) : (put C σ g a).2.2.2.1 = if a = 10 then fs σ.2.2.2.1 g (σ.2.2.2.2 + 1) else σ.2.2.2.1 := by
  unfold put
  split <;> rfl
theorem run_in {C : Cf} (hC : COk C) : ∀ (k : Nat) (p : Sm × (Nat → Bool)) (g : Nat), OkM C p.1 → p.1.1 g ≠ 0 → (run C k p).1.1 g ≠ 0
  | 0, _, _, _, h => h
  | k + 1, p, g, hO, h => by
    unfold run
    cases e : first C p.1 with
    | none => exact h
    | some j =>
      obtain ⟨f1, f2, f3, f4⟩ := first_some e
      refine run_in hC k _ g (okm_step hC hO e) ?_
      show (put C p.1 j _).1 g ≠ 0
      rw [put_at]
      by_cases z : g = j
      · subst z
        rw [fs_s]
        have := nx_ok (C := C) (g := g) (ins_le hO f2)
        omega
      · rw [fs_n _ _ z]; exact h
theorem mn_in {C : Cf} (hC : COk C) : ∀ (k : Nat) {σ : Sm} {g : Nat}, Ok C σ → σ.1 g ≠ 0 → (mn C k σ).1 g ≠ 0
  | 0, _, _, _, h => h
  | k + 1, σ, g, hO, h => mn_in hC k (σ := minute C σ) (ok_minute hC hO) (run_in hC 36 (dec σ, fun _ => false) g (okm_dec hO.toM) h)
theorem run_when {C : Cf} : ∀ (k : Nat) (p : Sm × (Nat → Bool)) (g t : Nat), p.1.2.2.2.2 = t → (p.1.1 g = 10 → t + 1 ≤ p.1.2.2.2.1 g) → (run C k p).1.1 g = 10 → t + 1 ≤ (run C k p).1.2.2.2.1 g
  | 0, _, _, _, _, h, h2 => h h2
  | k + 1, p, g, t, ht, h, h2 => by
    unfold run at h2 ⊢
    cases e : first C p.1 with
    | none =>
      rw [e] at h2
      exact h h2
    | some j =>
      rw [e] at h2
      refine run_when k _ g t ?_ (fun h3 => ?_) h2
      · show (put C p.1 j _).2.2.2.2 = t
        unfold put
        split <;> exact ht
      · have h4 : (put C p.1 j (nx C j (p.1.1 j))).1 g = 10 := h3
        show t + 1 ≤ (put C p.1 j (nx C j (p.1.1 j))).2.2.2.1 g
        rw [put_at] at h4
        rw [put_thr]
        by_cases z : g = j
        · subst z
          rw [fs_s] at h4
          rw [if_pos h4, fs_s, ht]
          exact Nat.le_refl _
        · rw [fs_n _ _ z] at h4
          split
          · rw [fs_n _ _ z]; exact h h4
          · exact h h4
theorem mn_when {C : Cf} {t : Nat} : ∀ (k : Nat) {σ : Sm} {g : Nat}, t ≤ σ.2.2.2.2 → (σ.1 g = 10 → t + 1 ≤ σ.2.2.2.1 g) → (mn C k σ).1 g = 10 → t + 1 ≤ (mn C k σ).2.2.2.1 g
  | 0, _, _, _, h, h2 => h h2
  | k + 1, σ, g, ht, h, h2 => by
    refine mn_when k (σ := minute C σ) (by rw [minute_now]; omega) (fun h3 => ?_) h2
    show t + 1 ≤ (mid C σ).1.2.2.2.1 g
    by_cases h10 : σ.1 g = 10
    · have key : ∀ (k : Nat) (p : Sm × (Nat → Bool)), p.1.1 g = 10 → (run C k p).1.2.2.2.1 g = p.1.2.2.2.1 g := by
        intro k
        induction k with
        | zero => intro p _; rfl
        | succ k ih =>
          intro p hp
          unfold run
          cases e : first C p.1 with
          | none => rfl
          | some j =>
            obtain ⟨f1, f2, f3, f4⟩ := first_some e
            have z : g ≠ j := fun z => by subst z; exact (ins_t.mp f2).2 hp
            show (run C k (step C p.1 j, _)).1.2.2.2.1 g = _
            rw [ih _ (by show (put C p.1 j _).1 g = 10; rw [put_at, fs_n _ _ z]; exact hp)]
            show (put C p.1 j _).2.2.2.1 g = _
            rw [put_thr]
            split
            · rw [fs_n _ _ z]
            · rfl
      unfold mid
      rw [key 36 (dec σ, fun _ => false) h10]
      exact h h10
    · have := run_when (C := C) 36 (dec σ, fun _ => false) g σ.2.2.2.2 rfl (fun z => absurd z h10) h3
      unfold mid
      omega
theorem st_stuck {N : Nat} {M : Mem} (hN : N < 512) (h : Cpl N M) : Both N f_X10_stuck f_X11_stuck M := by
  obtain ⟨⟨C, σ, hI⟩, hR⟩ := h
  obtain ⟨a1, a2, a3, a4, a5, a6, a7, a8, a9⟩ := id hI
  have c2 := a1.2.1
  have hO' := ok_mn a1 400 a2
  have hnow : (mn C 400 σ).2.2.2.2 = σ.2.2.2.2 + 400 := mn_now C 400 σ
  have hth : ∀ g, (mn C 400 σ).2.2.2.1 g < 2 ^ 30 := fun g => by have := hO'.2.2.2.2.2.2.1 g; omega
  unfold Both f_X10_stuck f_X10_stuck_0 f_X10_stuck_76
  rw [wp_bd]
  refine wp_mono (copy_spec (s := 36) (by omega) a7) (fun _ M4 q => ?_)
  obtain ⟨q1, q2⟩ := q
  rw [wp_bd]
  refine wp_mono (goOn_spec (k := 400) (by decide) a1 (CfC.fr (by decide) c2 q2 a5) q1 a2 (by decide) (by omega)) (fun _ M5 z => ?_)
  obtain ⟨z1, z2⟩ := z
  have i26 : IsC C M5 26 σ := IsC.eq (fun i k e1 e2 _ => (z2 i k (by unfold stS; omega)).trans (q2 i k (by unfold stS; omega))) a7
  rw [ci_ins a1 z1 hO'.toM, bd_e, ci_ins a1 i26 a2.toM, bd_e, wp_vl, bI_but, wp_bd]
  refine wp_mono (clearRow_spec M5) (fun _ M6 w => ?_)
  obtain ⟨w1, w2⟩ := w
  have i36 : IsC C M6 36 (mn C 400 σ) := IsC.eq (fun i k e1 e2 _ => w2 i k (by unfold rcS; omega)) z1
  have n26 : M6 26 0 = nI σ.2.2.2.2 := (w2 26 0 (by unfold rcS; omega)).trans i26.2.2.2.2.1
  have hp : ∀ g, (ins (σ.1 g) && !(ins ((mn C 400 σ).1 g))) = (ins (σ.1 g) && (mn C 400 σ).1 g == 10) := fun g => by
    cases e : ins (σ.1 g) with
    | false => rfl
    | true =>
      have h0 := mn_in a1 400 a2 (g := g) (ins_t.mp e).1
      unfold ins
      cases e2 : ((mn C 400 σ).1 g == 0) with
      | true => exact absurd (beq_iff_eq.mp e2) h0
      | false => cases (mn C 400 σ).1 g == 10 <;> rfl
  have hval : (if bI (fun g => ins (σ.1 g) && !(ins ((mn C 400 σ).1 g))) = 0 then (0 : Int32) else pI (mx (fun g => ins (σ.1 g) && !(ins ((mn C 400 σ).1 g))) (mn C 400 σ).2.2.2.1) + 1 - nI σ.2.2.2.2) = nI (mx (fun g => ins (σ.1 g) && (mn C 400 σ).1 g == 10) (mn C 400 σ).2.2.2.1 - σ.2.2.2.2) := by
    have ef : (fun g => ins (σ.1 g) && !(ins ((mn C 400 σ).1 g))) = (fun g => ins (σ.1 g) && (mn C 400 σ).1 g == 10) := funext hp
    rw [ef]
    by_cases hz : bI (fun g => ins (σ.1 g) && (mn C 400 σ).1 g == 10) = 0
    · rw [if_pos hz]
      have h0 := bI_zero.mp hz
      have : mx (fun g => ins (σ.1 g) && (mn C 400 σ).1 g == 10) (mn C 400 σ).2.2.2.1 = 0 := by
        unfold mx
        refine foldF_id 6 0 0 (fun k x _ hk => ?_)
        rw [if_neg (by show ¬ (ins (σ.1 k) && (mn C 400 σ).1 k == 10) = true; rw [h0 k (by omega)]; decide)]
      rw [this, Nat.zero_sub]; rfl
    · rw [if_neg hz]
      have hex : ∃ g, g < 6 ∧ (ins (σ.1 g) && (mn C 400 σ).1 g == 10) = true := by
        apply Classical.byContradiction
        intro hn
        apply hz
        refine bI_zero.mpr (fun g hg => ?_)
        rw [Bool.eq_false_iff]
        intro q
        exact hn ⟨g, hg, q⟩
      obtain ⟨g, hg, hpg⟩ := hex
      have hq := Bool.and_eq_true_iff.mp hpg
      have h1 := mx_ge (p := fun g => ins (σ.1 g) && (mn C 400 σ).1 g == 10) (f := (mn C 400 σ).2.2.2.1) hg hpg
      have h2 := mn_when (C := C) (t := σ.2.2.2.2) 400 (σ := σ) (g := g) (Nat.le_refl _) (fun z => absurd z (ins_t.mp hq.1).2) (beq_iff_eq.mp hq.2)
      have e1 : pI (mx (fun g => ins (σ.1 g) && (mn C 400 σ).1 g == 10) (mn C 400 σ).2.2.2.1) + 1 = nI (mx (fun g => ins (σ.1 g) && (mn C 400 σ).1 g == 10) (mn C 400 σ).2.2.2.1) := by
        unfold pI; simp
      rw [e1, pk_sub (by omega)]
  have tl : ∀ t0 : Int32, t0 = nI (mx (fun g => ins (σ.1 g) && (mn C 400 σ).1 g == 10) (mn C 400 σ).2.2.2.1 - σ.2.2.2.2) → wp (bd (f_X10_tell t0 M6) fun _ M22 => some (bI (fun g => ins ((mn C 400 σ).1 g)), M22)) (fun r M1 => wp (f_X11_stuck M1) (fun r' M2 => r' = r ∧ Cpl (N + 1) M2)) := by
    intro t0 ht0
    rw [wp_bd]
    refine wp_mono (tell_spec t0 w1 (by decide)) (fun _ Mc v => ?_)
    obtain ⟨v1, v2⟩ := v
    rw [wp_s]
    have hrc : Fr rcS M5 Mc := w2.tr v2
    have hge : ∀ i k, 174 ≤ i → Mc i k = M i k := fun i k hi => (hrc i k (by unfold rcS; omega)).trans ((z2 i k (by unfold stS; omega)).trans (q2 i k (by unfold stS; omega)))
    have hFc : Fr scr M Mc := (s0_scr ((st_scr (Or.inl (by decide)) q2).tr (st_scr (Or.inl (by decide)) z2))).tr (rc_scr hrc)
    unfold f_X11_stuck f_X11_stuck_0
    rw [wp_ml, wp_bd]
    refine wp_mono (r_aside hI hge) (fun _ N1 e => ?_)
    obtain ⟨⟨e1, e2, e3⟩, e4, e5⟩ := e
    rw [wp_bd]
    refine wp_mono (lay191 c2 e3) (fun _ N2 f => ?_)
    obtain ⟨f1, f2⟩ := f
    have go0 : GoR C σ N2 := ⟨e2.1.eq2 (fun i k z => f2 i k (by show ¬ i = 191; unfold cHo at z; omega)), StR.eq (funext fun k => f2 187 k (show ¬ 187 = 191 by decide)) e1, f1⟩
    rw [wp_bd]
    refine wp_mono (gr_goOn a1 a2 go0) (fun _ N3 t => ?_)
    obtain ⟨⟨j, hj, ⟨t1, t2, t3⟩, t4, t5⟩, t6⟩ := t
    have r175 : IsR C (N3 175) σ := IsR.eq c2 (fun k _ => (t6 175 k (by unfold mnS; omega)).trans (f2 175 k (show ¬ 175 = 191 by decide))) e3
    have hOj := ok_mn a1 j a2
    refine wp_for (α := Int32) (fun m a x M => f_X11_stuck_29 m a x M) C.2.1 (fun k a M1 => M1 = N3 ∧ a = nI (foldF (fun g a => if (ins (σ.1 g) && (mn C 400 σ).1 g == 10) = true then max a ((mn C 400 σ).2.2.2.1 g - σ.2.2.2.2) else a) k 0 0) ∧ foldF (fun g a => if (ins (σ.1 g) && (mn C 400 σ).1 g == 10) = true then max a ((mn C 400 σ).2.2.2.1 g - σ.2.2.2.2) else a) k 0 0 < 2 ^ 30) _ (fun m k a M1 hk hJ kk => ?_) (fun m a M1 hJ => ?_) C.2.1 0 FU 0 N3 (by omega) (by show C.2.1 < 2000; omega) ⟨rfl, rfl, by show 0 < 2 ^ 30; decide⟩
    · obtain ⟨rfl, j2, j3⟩ := hJ
      show wp (f_X11_stuck_29 (m + 1) a (nI k) M1) _
      unfold f_X11_stuck_29 f_X11_stuck_84
      rw [t1.2.1, if_pos (nI_lt hk (by omega)), ri_inside a1 a2.toM r175 rfl hk, bd_e]
      have fl := foldF_last (fun g a => if (ins (σ.1 g) && (mn C 400 σ).1 g == 10) = true then max a ((mn C 400 σ).2.2.2.1 g - σ.2.2.2.2) else a) k 0 0
      rw [Nat.zero_add] at fl
      have hthk := hth k
      by_cases hi : ins (σ.1 k) = true
      · rw [b2i_t hi, if_neg (by decide), gd_t (nI_inb (show k < 25 by omega) (by decide)), nI_clamp (by omega), t3.1 k hk, t4]
        have hA := at_lt a1 hO'.toM k
        by_cases h10 : (mn C 400 σ).1 k = 10
        · have hp1 : (ins (σ.1 k) && (mn C 400 σ).1 k == 10) = true := by rw [hi, h10]; rfl
          have h2 := mn_when (C := C) (t := σ.2.2.2.2) 400 (σ := σ) (g := k) (Nat.le_refl _) (fun z => absurd z (ins_t.mp hi).2) h10
          have e18 : M1 191 (18 + k) + 1 - M1 175 24 = nI ((mn C 400 σ).2.2.2.1 k - σ.2.2.2.2) := by
            rw [t3.2.2.2.1 k hk, t5, r175.2.2.2.2]
            have : pI ((mn C 400 σ).2.2.2.1 k) + 1 = nI ((mn C 400 σ).2.2.2.1 k) := by unfold pI; simp
            rw [this, pk_sub (by omega)]
          rw [if_pos ((pI_9 (by omega)).mpr h10), la18, gd_t (nI_inb (show 18 + k < 25 by omega) (by decide)), nI_clamp (by omega), gd_t (by decide), c24, e18, wp_vl, wp_vl, wp_vl, nI_1]
          refine kk _ M1 ⟨rfl, ?_, ?_⟩
          · rw [fl, if_pos hp1, j2]
            by_cases hlt : foldF (fun g a => if (ins (σ.1 g) && (mn C 400 σ).1 g == 10) = true then max a ((mn C 400 σ).2.2.2.1 g - σ.2.2.2.2) else a) k 0 0 < (mn C 400 σ).2.2.2.1 k - σ.2.2.2.2
            · rw [if_pos (nI_lt hlt (by omega))]; congr 1; omega
            · rw [if_neg (nI_nlt (by omega) (by omega))]; congr 1; omega
          · rw [fl, if_pos hp1]; omega
        · have hp1 : ¬ (ins (σ.1 k) && (mn C 400 σ).1 k == 10) = true := fun z => h10 (beq_iff_eq.mp (Bool.and_eq_true_iff.mp z).2)
          rw [if_neg (fun z => h10 ((pI_9 (by omega)).mp z)), wp_vl, nI_1]
          exact kk _ M1 ⟨rfl, by rw [fl, if_neg hp1]; exact j2, by rw [fl, if_neg hp1]; exact j3⟩
      · have hp1 : ¬ (ins (σ.1 k) && (mn C 400 σ).1 k == 10) = true := fun z => hi (Bool.and_eq_true_iff.mp z).1
        rw [b2i_f hi, if_pos rfl, wp_vl, nI_1]
        exact kk _ M1 ⟨rfl, by rw [fl, if_neg hp1]; exact j2, by rw [fl, if_neg hp1]; exact j3⟩
    · obtain ⟨rfl, j2, j3⟩ := hJ
      show wp (f_X11_stuck_29 (m + 1) a (nI C.2.1) M1) _
      unfold f_X11_stuck_29
      rw [t1.2.1, if_neg (nI_nlt (Nat.le_refl _) (by omega)), wp_ml]
      obtain ⟨r1, r2⟩ := rowr0 M1
      rw [wp_bd]
      refine wp_mono (tellr_spec _ r1 (by decide)) (fun _ Mr y => ?_)
      obtain ⟨y1, y2⟩ := y
      have hrr : Fr rrS M1 Mr := r2.tr y2
      rw [ri_ins a1 (t1.eq2 (fun i k z => hrr i k (by unfold cHo at z; unfold rrS; omega))) hOj.toM (IsR.eq c2 (fun k _ => hrr 191 k (by unfold rrS; omega)) t3) rfl, bd_e, wp_s, t4]
      have ea : a = t0 := by
        rw [j2, ht0, ← mx_sub]
        congr 1
        unfold mx
        refine foldF_to 0 c2 (fun k x _ => rfl) (fun k x h1 _ => ?_)
        rw [if_neg (by show ¬ (ins (σ.1 k) && (mn C 400 σ).1 k == 10) = true; rw [a2.2.1 k h1]; simp [ins])]
      refine ⟨rfl, q_row hI hN ((hFc.tr (s0_scr ((e4.tr (l9_s0 f2)).tr (mn_scr t6)))).tr (rr_scr hrr)) (l := [] ++ [t0]) (by show 1 ≤ 12; decide) ?_ (by rw [← ea]; exact y1)⟩
      have lo : ∀ i k, i < 174 → Mr i k = Mc i k := fun i k hi => by rw [rr_lo hrr hi, t6 i k (by unfold mnS; omega), f2 i k (by show ¬ i = 191; omega), e5 i k hi]
      exact v1.fr (lo 0 16 (by decide)) (funext fun k => lo 173 k (by decide))
  by_cases hz : bI (fun g => ins (σ.1 g) && !(ins ((mn C 400 σ).1 g))) = 0
  · rw [if_pos hz] at hval ⊢
    exact tl 0 hval
  · rw [if_neg hz] at hval ⊢
    rw [ci_last i36 _ (fun g _ => hth g), bd_e, n26]
    exact tl _ hval
