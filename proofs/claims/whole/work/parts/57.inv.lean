/-! rows of states, the past, the row -/
theorem cp6 (M : Mem) (i : Nat) : cpOk M i 0 0 6 6 6 := ⟨by decide, by decide, by decide, by decide, by decide⟩
theorem gdc {α : Type} (M : Mem) (i : Nat) (x : Option α) : gd (cpOk M i 0 0 6 6 6) x = x := gd_t (cp6 M i)
theorem c6 : (6 : Int32).toNatClampNeg = 6 := by decide
theorem c0 : (0 : Int32).toNatClampNeg = 0 := by decide
theorem cp_in (M : Mem) (i0 i1 : Nat) {k : Nat} (h : k < 6) : cpM M i0 i1 0 0 6 i1 k = M i0 k := by
  unfold cpM upR
  rw [if_pos rfl, c0, c6, pk_cpy_in (Nat.zero_le _) (by omega)]
  simp
theorem cp_row (M : Mem) (i0 : Nat) {i1 j : Nat} (sp dp w : Int32) (h : j ≠ i1) : cpM M i0 i1 sp dp w j = M j := by
  unfold cpM upR
  exact if_neg h
theorem Fr.cp {S : Nat → Nat → Prop} {M M1 : Mem} {i0 i1 : Nat} {sp dp w : Int32} (h : Fr S M M1) (hs : ∀ k, S i1 k) : Fr S M (cpM M1 i0 i1 sp dp w) := by
  intro j q hn
  have e : j ≠ i1 := fun e => hn (by rw [e]; exact hs q)
  rw [cp_row _ _ _ _ _ e]
  exact h j q hn
theorem copy_spec {C : Cf} {M : Mem} {s s1 : Nat} {σ : Sm} (hd : s + 5 ≤ s1 ∨ s1 + 5 ≤ s) (hS : IsC C M s1 σ) : wp (f_X7_copy s s1 M) (fun _ M' => IsC C M' s σ ∧ Fr (stS s) M M') := by
  unfold f_X7_copy f_X7_copy_0
  simp only [ml, gdc]
  rw [wp_s]
  obtain ⟨h1, h2, h3, h4, h5, h6⟩ := hS
  have sS : ∀ i, s ≤ i → i ≤ s + 4 → ∀ k, stS s i k := fun i a b k => ⟨a, b⟩
  refine ⟨⟨fun g hg => ?_, fun g hg => ?_, fun g hg => ?_, fun g hg => ?_, ?_, fun r hr => ?_⟩, ?_⟩
  · rw [cp_row _ _ _ _ _ (show s + 1 ≠ s + 4 by omega), cp_row _ _ _ _ _ (show s + 1 ≠ s + 3 by omega), cp_row _ _ _ _ _ (show s + 1 ≠ s + 2 by omega), cp_in _ _ _ hg, up_row _ _ _ (show s1 + 1 ≠ s by omega), up_row _ _ _ (show s1 + 1 ≠ s by omega)]
    exact h1 g hg
  · rw [cp_row _ _ _ _ _ (show s + 2 ≠ s + 4 by omega), cp_row _ _ _ _ _ (show s + 2 ≠ s + 3 by omega), cp_in _ _ _ hg, cp_row _ _ _ _ _ (show s1 + 2 ≠ s + 1 by omega), up_row _ _ _ (show s1 + 2 ≠ s by omega), up_row _ _ _ (show s1 + 2 ≠ s by omega)]
    exact h2 g hg
  · rw [cp_row _ _ _ _ _ (show s + 3 ≠ s + 4 by omega), cp_in _ _ _ hg, cp_row _ _ _ _ _ (show s1 + 3 ≠ s + 2 by omega), cp_row _ _ _ _ _ (show s1 + 3 ≠ s + 1 by omega), up_row _ _ _ (show s1 + 3 ≠ s by omega), up_row _ _ _ (show s1 + 3 ≠ s by omega)]
    exact h3 g hg
  · rw [cp_in _ _ _ hg, cp_row _ _ _ _ _ (show s1 + 4 ≠ s + 3 by omega), cp_row _ _ _ _ _ (show s1 + 4 ≠ s + 2 by omega), cp_row _ _ _ _ _ (show s1 + 4 ≠ s + 1 by omega), up_row _ _ _ (show s1 + 4 ≠ s by omega), up_row _ _ _ (show s1 + 4 ≠ s by omega)]
    exact h4 g hg
  · rw [cp_row _ _ _ _ _ (show s ≠ s + 4 by omega), cp_row _ _ _ _ _ (show s ≠ s + 3 by omega), cp_row _ _ _ _ _ (show s ≠ s + 2 by omega), cp_row _ _ _ _ _ (show s ≠ s + 1 by omega), up_col _ _ _ (by decide), up_self]
    exact h5
  · rw [cp_row _ _ _ _ _ (show s ≠ s + 4 by omega), cp_row _ _ _ _ _ (show s ≠ s + 3 by omega), cp_row _ _ _ _ _ (show s ≠ s + 2 by omega), cp_row _ _ _ _ _ (show s ≠ s + 1 by omega), up_self, up_row _ _ _ (show s1 ≠ s by omega)]
    exact h6 r hr
  · exact (((((Fr.rf.up (sS _ (by omega) (by omega) _)).up (sS _ (by omega) (by omega) _)).cp (sS _ (by omega) (by omega))).cp (sS _ (by omega) (by omega))).cp (sS _ (by omega) (by omega))).cp (sS _ (by omega) (by omega))
/-! the past: u of them, the latest first -/
def PsC (C : Cf) (M : Mem) (lt u : Nat) (τ : Nat → Sm) : Prop := lt < 12 ∧ u ≤ 12 ∧ M 46 1 = nI lt ∧ M 46 2 = nI u ∧ ∀ j, j < u → IsC C M (48 + 5 * ((lt + 12 - j) % 12)) (τ j)
def PsR (C : Cf) (M : Mem) (u : Nat) (τ : Nat → Sm) : Prop := M 174 28 = nI u ∧ ∀ j, j < u → IsR C (fun k => M 188 (25 * (u - 1 - j) + k)) (τ j)
def psh (σ : Sm) (τ : Nat → Sm) : Nat → Sm := fun j => if j = 0 then σ else τ (j - 1)
def pu1 (u : Nat) : Nat := if u < 12 then u + 1 else 12
theorem pu1_le (u : Nat) : pu1 u ≤ 12 := by unfold pu1; split <;> omega
def psS : Nat → Nat → Prop := fun i _ => 46 ≤ i ∧ i ≤ 107
theorem add22 {C : Cf} {M : Mem} {s1 : Nat} {σ : Sm} {lt u : Nat} {τ : Nat → Sm} (hs : s1 + 5 ≤ 46) (hS : IsC C M s1 σ) (hP : PsC C M lt u τ) {lt' : Nat} (hl : lt' < 12) (hl2 : lt' = (lt + 1) % 12) : wp (f_X6_add_22 s1 (nI lt') M) (fun _ M' => (∃ lt', PsC C M' lt' (pu1 u) (psh σ τ)) ∧ Fr psS M M') := by
  obtain ⟨l12, u12, e1, e2, hτ⟩ := hP
  unfold f_X6_add_22
  rw [wp_ml]
  simp only [up_self]
  rw [wp_gd]
  refine ⟨nI_inb hl (by decide), ?_⟩
  rw [nI_clamp (by omega), wp_bd]
  have hS' : IsC C (up M 46 1 (nI lt')) s1 σ := IsC.eq (fun i k h1 h2 _ => by rw [up_row _ _ _ (by omega)]) hS
  refine wp_mono (copy_spec (s := 48 + 5 * lt') (by omega) hS') (fun _ M5 h => ?_)
  obtain ⟨h1, hF⟩ := h
  have e46 : ∀ k, M5 46 k = up M 46 1 (nI lt') 46 k := fun k => hF 46 k (by unfold stS; omega)
  have e2' : M5 46 2 = nI u := by rw [e46, up_col _ _ _ (by decide), e2]
  have ev : (if M5 46 2 + 1 < (12 : Int32) then M5 46 2 + 1 else (12 : Int32)) = nI (pu1 u) := by
    rw [e2', nI_1]
    unfold pu1
    by_cases h : u < 11
    · rw [if_pos (show nI (u + 1) < 12 from nI_lt (b := 12) (by omega) (by decide)), if_pos (by omega)]
    · rw [if_neg (show ¬ nI (u + 1) < 12 from nI_nlt (b := 12) (by omega) (by omega))]
      by_cases h2 : u = 11
      · subst h2; rfl
      · rw [if_neg (by omega)]; rfl
  rw [wp_vl, ev, wp_ml, wp_s]
  refine ⟨⟨lt', hl, pu1_le u, ?_, up_self _ _ _ _, fun j hj => ?_⟩, ?_⟩
  · rw [up_col _ _ _ (by decide), e46, up_self]
  · unfold psh
    by_cases h0 : j = 0
    · subst h0
      rw [if_pos rfl, show (lt' + 12 - 0) % 12 = lt' by omega]
      exact IsC.eq (fun i k a b _ => by rw [up_row _ _ _ (by omega)]) h1
    · rw [if_neg h0]
      have hj2 : j - 1 < u ∧ j < 12 := by unfold pu1 at hj; split at hj <;> omega
      have ei : (lt' + 12 - j) % 12 = (lt + 12 - (j - 1)) % 12 := by omega
      have en : (lt' + 12 - j) % 12 ≠ lt' := by omega
      rw [ei] at en ⊢
      refine IsC.eq (fun i k a b _ => ?_) (hτ (j - 1) hj2.1)
      rw [up_row _ _ _ (by omega), hF i k (by unfold stS; omega), up_row _ _ _ (by omega)]
  · have hF1 : Fr psS M (up M 46 1 (nI lt')) := Fr.rf.up ⟨by omega, by omega⟩
    exact (hF1.tr (hF.mn (fun i k h => by unfold stS at h; unfold psS; omega))).up ⟨by omega, by omega⟩
theorem add_spec {C : Cf} {M : Mem} {s1 : Nat} {σ : Sm} {lt u : Nat} {τ : Nat → Sm} (hs : s1 + 5 ≤ 46) (hS : IsC C M s1 σ) (hP : PsC C M lt u τ) : wp (f_X6_add s1 M) (fun _ M' => (∃ lt', PsC C M' lt' (pu1 u) (psh σ τ)) ∧ Fr psS M M') := by
  have l12 := hP.1
  have e1 := hP.2.2.1
  unfold f_X6_add f_X6_add_0
  rw [e1, nI_1]
  by_cases h : lt + 1 < 12
  · rw [if_pos (show nI (lt + 1) < 12 from nI_lt (b := 12) h (by decide))]
    exact add22 hs hS hP h (by omega)
  · rw [if_neg (show ¬ nI (lt + 1) < 12 from nI_nlt (b := 12) (by omega) (by omega))]
    exact add22 (lt' := 0) hs hS hP (by decide) (by omega)
def tbS : Nat → Nat → Prop := fun i _ => (26 ≤ i ∧ i ≤ 30) ∨ i = 46
theorem takeBack_spec {C : Cf} {M : Mem} {lt u : Nat} {τ : Nat → Sm} (hP : PsC C M lt (u + 1) τ) : wp (f_X6_takeBack 26 M) (fun _ M' => IsC C M' 26 (τ 0) ∧ (∃ lt', PsC C M' lt' u (fun j => τ (j + 1))) ∧ Fr tbS M M') := by
  obtain ⟨l12, u12, e1, e2, hτ⟩ := hP
  have fin39 : ∀ (lt' : Nat) (M1 : Mem), lt' < 12 → lt' = (lt + 11) % 12 → IsC C M1 26 (τ 0) → Fr (stS 26) M M1 → wp (f_X6_takeBack_39 26 (nI lt') M1) (fun _ M' => IsC C M' 26 (τ 0) ∧ (∃ lt', PsC C M' lt' u (fun j => τ (j + 1))) ∧ Fr tbS M M') := by
    intro lt' M1 hl hl2 hS hF
    unfold f_X6_takeBack_39 f_X6_takeBack_52
    rw [wp_ml, wp_ml, wp_s]
    have e46 : ∀ k, M1 46 k = M 46 k := fun k => hF 46 k (by unfold stS; omega)
    refine ⟨IsC.eq (fun i k a b _ => by rw [up_row _ _ _ (by omega), up_row _ _ _ (by omega)]) hS, ⟨lt', hl, by omega, ?_, ?_, fun j hj => ?_⟩, ?_⟩
    · rw [up_col _ _ _ (by decide), up_self]
    · rw [up_self, up_col _ _ _ (by decide), e46, e2]; exact nI_pred u
    · have ei : (lt' + 12 - j) % 12 = (lt + 12 - (j + 1)) % 12 := by omega
      rw [ei]
      refine IsC.eq (fun i k a b _ => ?_) (hτ (j + 1) (by omega))
      rw [up_row _ _ _ (by omega), up_row _ _ _ (by omega), hF i k (by unfold stS; omega)]
    · exact ((hF.mn (fun i k h => by unfold stS at h; unfold tbS; omega)).up (Or.inr rfl)).up (Or.inr rfl)
  unfold f_X6_takeBack f_X6_takeBack_0
  rw [e2, e1, if_pos (nIp (by omega) (by omega)), wp_gd]
  refine ⟨nI_inb l12 (by decide), ?_⟩
  rw [nI_clamp (by omega), wp_bd]
  have h0 := hτ 0 (by omega)
  rw [show (lt + 12 - 0) % 12 = lt by omega] at h0
  refine wp_mono (copy_spec (s := 26) (by omega) h0) (fun _ M4 h => ?_)
  have e46 : M4 46 1 = nI lt := (h.2 46 1 (by unfold stS; omega)).trans e1
  rw [e46]
  by_cases hz : 0 < lt
  · rw [if_pos (nIp hz (by omega)), nI_sub1 hz]
    exact fin39 (lt - 1) M4 (by omega) (by omega) h.1 h.2
  · have hz2 : lt = 0 := by omega
    subst hz2
    rw [if_neg (by decide)]
    exact fin39 11 M4 (by decide) (by decide) h.1 h.2
/-! the reference's rows -/
theorem IsRt.eq {C : Cf} {f f' : Nat → Int32} {σ : Sm} {t : Nat} (hc : C.2.1 ≤ 6) (h : ∀ k, k < 25 → f' k = f k) (hR : IsRt C f σ t) : IsRt C f' σ t := by
  obtain ⟨h1, h2, h3, h4, h5⟩ := hR
  exact ⟨fun g hg => (h g (by omega)).trans (h1 g hg), fun g hg => (h (6 + g) (by omega)).trans (h2 g hg), fun g hg => (h (12 + g) (by omega)).trans (h3 g hg), fun g hg => (h (18 + g) (by omega)).trans (h4 g hg), (h 24 (by omega)).trans h5⟩
theorem IsR.eq {C : Cf} {f f' : Nat → Int32} {σ : Sm} (hc : C.2.1 ≤ 6) (h : ∀ k, k < 25 → f' k = f k) (hR : IsR C f σ) : IsR C f' σ := IsRt.eq hc h hR
theorem lay_spec {a0 a1 k0 : Nat} {M : Mem} (hne : a0 ≠ a1) (h0 : LN a0 = 25) (h1 : k0 + 25 ≤ LN a1) (hL : LN a1 ≤ 1000) : wp (f_X11_lay a0 a1 (nI k0) M) (fun _ M' => (∀ k, k < 25 → M' a1 (k0 + k) = M a0 k) ∧ (∀ k, (k < k0 ∨ k0 + 25 ≤ k) → M' a1 k = M a1 k) ∧ ∀ i, i ≠ a1 → M' i = M i) := by
  unfold f_X11_lay f_X11_lay_0
  refine wp_for (α := Unit) (fun n _ x M => f_X11_lay_2 a0 a1 n (nI k0) x M) 25 (fun g _ M1 => (∀ k, k < g → M1 a1 (k0 + k) = M a0 k) ∧ (∀ k, (k < k0 ∨ k0 + g ≤ k) → M1 a1 k = M a1 k) ∧ ∀ i, i ≠ a1 → M1 i = M i) _ (fun n g _ M1 hg hI kk => ?_) (fun n _ M1 hI => ?_) 25 0 FU () M (by omega) (by decide) ⟨fun k hk => absurd hk (Nat.not_lt_zero k), fun k _ => rfl, fun i _ => rfl⟩
  · obtain ⟨i1, i2, i3⟩ := hI
    show wp (f_X11_lay_2 a0 a1 (n + 1) (nI k0) (nI g) M1) _
    unfold f_X11_lay_2
    rw [if_pos (show nI g < 25 from nI_lt (b := 25) hg (by decide)), h0, wp_gd]
    refine ⟨nI_inb (by omega) (by decide), ?_⟩
    rw [nI_add, wp_gd]
    refine ⟨nI_inb (by omega) (by omega), ?_⟩
    rw [nI_clamp (by omega), nI_clamp (by omega), wp_ml, wp_vl, nI_1]
    refine kk () _ ⟨fun k hk => ?_, fun k hk => ?_, fun i hi => ?_⟩
    · by_cases e : k = g
      · subst e; rw [up_self, i3 a0 hne]
      · rw [up_col _ _ _ (by omega)]; exact i1 k (by omega)
    · rw [up_col _ _ _ (by omega)]; exact i2 k (by omega)
    · rw [up_row _ _ _ hi]; exact i3 i hi
  · show wp (f_X11_lay_2 a0 a1 (n + 1) (nI k0) (nI 25) M1) _
    unfold f_X11_lay_2
    rw [if_neg (show ¬ nI 25 < 25 by decide), wp_s]
    exact hI
def rmS : Nat → Nat → Prop := fun i k => i = 188 ∨ (i = 174 ∧ k = 28)
theorem rem49 {C : Cf} {M M0 : Mem} {u : Nat} {σ : Sm} {τ : Nat → Sm} (hc : C.2.1 ≤ 6) (hu : u < 12) (hu0 : M 174 28 = nI u) (h175 : IsR C (M 175) σ) (hτ : ∀ j, j < u → IsR C (fun k => M 188 (25 * (u - 1 - j) + k)) (τ j)) (hF : Fr rmS M0 M) : wp (f_X11_remember_49 175 M) (fun _ M' => PsR C M' (u + 1) (psh σ τ) ∧ Fr rmS M0 M') := by
  unfold f_X11_remember_49
  rw [hu0, show (25 : Int32) * nI u = nI (25 * u) from pk_mul 25 u, wp_bd]
  refine wp_mono (lay_spec (k0 := 25 * u) (by decide) rfl (by show 25 * u + 25 ≤ 300; omega) (by decide)) (fun _ M3 h => ?_)
  obtain ⟨h1, h2, h3⟩ := h
  have e28 : M3 174 28 = nI u := by rw [h3 174 (by decide)]; exact hu0
  rw [wp_ml, wp_s, e28, nI_1]
  refine ⟨⟨up_self _ _ _ _, fun j hj => ?_⟩, ?_⟩
  · unfold psh
    by_cases h0 : j = 0
    · subst h0
      rw [if_pos rfl]
      refine IsR.eq hc (fun k hk => ?_) h175
      rw [up_row _ _ _ (by decide), show u + 1 - 1 - 0 = u by omega]
      exact h1 k hk
    · rw [if_neg h0]
      refine IsR.eq hc (fun k hk => ?_) (hτ (j - 1) (by omega))
      rw [up_row _ _ _ (by decide), show u + 1 - 1 - j = u - 1 - (j - 1) by omega]
      exact h2 _ (Or.inl (by omega))
  · intro i k hn
    have hn1 : i ≠ 188 := fun e => hn (Or.inl e)
    have hn2 : ¬ (i = 174 ∧ k = 28) := fun e => hn (Or.inr e)
    rw [up_at, if_neg hn2, h3 i hn1]
    exact hF i k hn
theorem remember_spec {C : Cf} {M : Mem} {u : Nat} {σ : Sm} {τ : Nat → Sm} (hc : C.2.1 ≤ 6) (hu : u ≤ 12) (h175 : IsR C (M 175) σ) (hP : PsR C M u τ) : wp (f_X11_remember 175 M) (fun _ M' => PsR C M' (pu1 u) (psh σ τ) ∧ Fr rmS M M') := by
  obtain ⟨e1, hτ⟩ := hP
  unfold f_X11_remember f_X11_remember_0
  rw [e1]
  by_cases h12 : u = 12
  · subst h12
    rw [if_pos (by decide)]
    refine wp_for (α := Unit) (fun n _ x M => f_X11_remember_11 175 n x M) 275 (fun g _ M1 => (∀ k, k < g → M1 188 k = M 188 (k + 25)) ∧ (∀ k, g ≤ k → M1 188 k = M 188 k) ∧ ∀ i, i ≠ 188 → M1 i = M i) _ (fun n g _ M1 hg hI kk => ?_) (fun n _ M1 hI => ?_) 275 0 FU () M (by omega) (by decide) ⟨fun k hk => absurd hk (Nat.not_lt_zero k), fun k _ => rfl, fun i _ => rfl⟩
    · obtain ⟨i1, i2, i3⟩ := hI
      show wp (f_X11_remember_11 175 (n + 1) (nI g) M1) _
      unfold f_X11_remember_11
      rw [if_pos (show nI g < 275 from nI_lt (b := 275) hg (by decide)), show nI g + 25 = nI (g + 25) from nI_add g 25, wp_gd]
      refine ⟨nI_inb (by omega) (by decide), ?_⟩
      rw [wp_gd]
      refine ⟨nI_inb (by omega) (by decide), ?_⟩
      rw [nI_clamp (by omega), nI_clamp (by omega), wp_ml, wp_vl, nI_1]
      refine kk () _ ⟨fun k hk => ?_, fun k hk => ?_, fun i hi => ?_⟩
      · by_cases e : k = g
        · subst e; rw [up_self]; exact i2 _ (by omega)
        · rw [up_col _ _ _ e]; exact i1 k (by omega)
      · rw [up_col _ _ _ (by omega)]; exact i2 k (by omega)
      · rw [up_row _ _ _ hi]; exact i3 i hi
    · obtain ⟨i1, i2, i3⟩ := hI
      show wp (f_X11_remember_11 175 (n + 1) (nI 275) M1) _
      unfold f_X11_remember_11
      rw [if_neg (show ¬ nI 275 < 275 by decide), wp_ml, i3 174 (by decide), e1, show nI 12 - 1 = nI 11 by decide]
      refine wp_mono (rem49 (M0 := M) (u := 11) (σ := σ) (τ := τ) hc (by decide) (up_self _ _ _ _) ?_ (fun j hj => ?_) ?_) (fun _ M' h => h)
      · rw [up_row _ _ _ (by decide), i3 175 (by decide)]; exact h175
      · refine IsR.eq hc (fun k hk => ?_) (hτ j (by omega))
        rw [up_row _ _ _ (by decide), i1 _ (by omega)]
        congr 1
        omega
      · intro i k hn
        have hn1 : i ≠ 188 := fun e => hn (Or.inl e)
        have hn2 : ¬ (i = 174 ∧ k = 28) := fun e => hn (Or.inr e)
        rw [up_at, if_neg hn2, i3 i hn1]
  · rw [if_neg (show ¬ nI u = 12 from fun z => h12 ((nI_eq (b := 12) (by omega) (by decide)).mp z))]
    rw [show pu1 u = u + 1 by unfold pu1; rw [if_pos (by omega)]]
    exact rem49 hc (by omega) e1 h175 hτ Fr.rf
/-! the row -/
def RwC (M : Mem) (l : List Int32) : Prop := M 0 16 = nI l.length ∧ ∀ k, k < l.length → some (M 173 k) = l[k]?
def RwR (M : Mem) (l : List Int32) : Prop := M 174 13 = nI l.length ∧ ∀ k, k < l.length → some (M 184 k) = l[k]?
def rcS : Nat → Nat → Prop := fun i k => i = 173 ∨ (i = 0 ∧ k = 16)
def rrS : Nat → Nat → Prop := fun i k => i = 184 ∨ (i = 174 ∧ k = 13)
theorem clearRow_spec (M : Mem) : wp (f_X10_clearRow M) (fun _ M' => RwC M' [] ∧ Fr rcS M M') := by
  unfold f_X10_clearRow f_X10_clearRow_0
  rw [wp_ml, wp_s]
  exact ⟨⟨up_self _ _ _ _, fun k hk => absurd hk (Nat.not_lt_zero k)⟩, Fr.rf.up (Or.inr ⟨rfl, rfl⟩)⟩
theorem rowr0 (M : Mem) : RwR (up M 174 13 0) [] ∧ Fr rrS M (up M 174 13 0) := ⟨⟨up_self _ _ _ _, fun k hk => absurd hk (Nat.not_lt_zero k)⟩, Fr.rf.up (Or.inr ⟨rfl, rfl⟩)⟩
theorem snoc_get {l : List Int32} {x : Int32} {f : Nat → Int32} (h : ∀ k, k < l.length → some (f k) = l[k]?) : ∀ k, k < (l ++ [x]).length → some (upd f l.length x k) = (l ++ [x])[k]? := by
  intro k hk
  rw [List.length_append, List.length_singleton] at hk
  by_cases e : k = l.length
  · subst e
    rw [pk_us, List.getElem?_append_right (Nat.le_refl _)]
    simp
  · rw [pk_un e, List.getElem?_append_left (by omega)]
    exact h k (by omega)
theorem tell_spec {M : Mem} {l : List Int32} (x : Int32) (h : RwC M l) (hl : l.length < 12) : wp (f_X10_tell x M) (fun _ M' => RwC M' (l ++ [x]) ∧ Fr rcS M M') := by
  unfold f_X10_tell f_X10_tell_0 f_X10_tell_29
  rw [h.1, if_pos (show nI l.length < 12 from nI_lt (b := 12) hl (by decide)), wp_gd]
  refine ⟨nI_inb hl (by decide), ?_⟩
  rw [nI_clamp (by omega), wp_ml, wp_ml, wp_s, up_row _ _ _ (by decide), h.1, nI_1]
  refine ⟨⟨?_, ?_⟩, (Fr.rf.up (Or.inl rfl)).up (Or.inr ⟨rfl, rfl⟩)⟩
  · rw [up_self, List.length_append, List.length_singleton]
  · rw [up_row _ _ _ (by decide), upS]
    exact snoc_get h.2
theorem tellr_spec {M : Mem} {l : List Int32} (x : Int32) (h : RwR M l) (hl : l.length < 16) : wp (f_X11_tell x M) (fun _ M' => RwR M' (l ++ [x]) ∧ Fr rrS M M') := by
  unfold f_X11_tell f_X11_tell_0
  rw [h.1, wp_gd]
  refine ⟨nI_inb hl (by decide), ?_⟩
  rw [nI_clamp (by omega), wp_ml, wp_ml, wp_s, up_row _ _ _ (by decide), h.1, nI_1]
  refine ⟨⟨?_, ?_⟩, (Fr.rf.up (Or.inl rfl)).up (Or.inr ⟨rfl, rfl⟩)⟩
  · rw [up_self, List.length_append, List.length_singleton]
  · rw [up_row _ _ _ (by decide), upS]
    exact snoc_get h.2
def RowE (M : Mem) : Prop := ∃ w, w ≤ 12 ∧ M 0 16 = nI w ∧ M 174 13 = nI w ∧ ∀ k, k < w → M 173 k = M 184 k
theorem rowE {M : Mem} {l : List Int32} (hl : l.length ≤ 12) (h1 : RwC M l) (h2 : RwR M l) : RowE M := ⟨l.length, hl, h1.1, h2.1, fun k hk => Option.some.inj ((h1.2 k hk).trans (h2.2 k hk).symm)⟩
theorem RwC.fr {M M' : Mem} {l : List Int32} (h : RwC M l) (e : M' 0 16 = M 0 16) (e2 : M' 173 = M 173) : RwC M' l := ⟨e.trans h.1, fun k hk => by rw [e2]; exact h.2 k hk⟩
theorem RwR.fr {M M' : Mem} {l : List Int32} (h : RwR M l) (e : M' 174 13 = M 174 13) (e2 : M' 184 = M 184) : RwR M' l := ⟨e.trans h.1, fun k hk => by rw [e2]; exact h.2 k hk⟩
theorem RowE.fr {M M' : Mem} (h : RowE M) (e1 : M' 0 16 = M 0 16) (e2 : M' 173 = M 173) (e3 : M' 174 13 = M 174 13) (e4 : M' 184 = M 184) : RowE M' := by
  obtain ⟨w, h1, h2, h3, h4⟩ := h
  exact ⟨w, h1, e1.trans h2, e3.trans h3, fun k hk => by rw [e2, e4]; exact h4 k hk⟩
