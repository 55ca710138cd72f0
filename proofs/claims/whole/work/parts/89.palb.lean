/-! palace -/
def plF (t : Nat → Nat) (L : Nat) : Nat → Nat → Option Nat
  | 0, _ => if L = 0 then some 0 else none
  | m + 1, k => if k < 6 ∧ (t k = 114 ∨ t k = 99) then plF t L m (k + 1) else some k
theorem at_spec {M : Mem} {L k mo : Nat} (hT : TL M L) (hm : M 1 2 = nI mo) (hmo : mo ≤ 80) (hk : k < 2 ^ 30) : f_X8_at (nI k) M = some (if k < L then (if k < mo then nI (txN M k) else -2) else -1, M) := by
  obtain ⟨l80, e1, e2, ht⟩ := hT
  unfold f_X8_at f_X8_at_0 f_X8_at_18 f_X8_at_39
  rw [if_neg (nI_pos (by omega)), e1, hm]
  by_cases h : k < L
  · rw [if_pos (nI_lt h (by omega)), if_pos (show nI k < 80 from nI_lt (b := 80) (by omega) (by decide)), if_pos h]
    by_cases h2 : k < mo
    · rw [if_pos (nI_lt h2 (by omega)), gd_t (nI_inb (show k < 80 by omega) (by decide)), nI_clamp (by omega), if_pos h2, (ht k (by omega)).2.1]
    · rw [if_neg (nI_nlt (by omega) (by omega)), if_neg h2]
  · rw [if_neg (nI_nlt (by omega) (by omega)), if_neg h]
theorem plF_lt (t : Nat → Nat) (L : Nat) : ∀ (m k : Nat), k + m = L → ∀ f, plF t L m k = some f → f ≤ L
  | 0, k, h, f, hf => by
    unfold plF at hf
    split at hf
    · cases hf; omega
    · cases hf
  | m + 1, k, h, f, hf => by
    unfold plF at hf
    split at hf
    · exact plF_lt t L m (k + 1) (by omega) f hf
    · cases hf; omega
theorem plF_none (t : Nat → Nat) (L : Nat) : ∀ (m k : Nat), k + m = L → plF t L m k = none → 0 < L ∧ ∀ j, k ≤ j → j < L → j < 6 ∧ (t j = 114 ∨ t j = 99)
  | 0, k, h, hf => by
    unfold plF at hf
    split at hf
    · cases hf
    · exact ⟨by omega, fun j h1 h2 => by omega⟩
  | m + 1, k, h, hf => by
    unfold plF at hf
    split at hf
    · rename_i hc
      obtain ⟨h1, h2⟩ := plF_none t L m (k + 1) (by omega) hf
      refine ⟨h1, fun j h3 h4 => ?_⟩
      by_cases e : j = k
      · subst e; exact hc
      · exact h2 j (by omega) h4
    · cases hf
theorem fop_cls {M : Mem} {L : Nat} (hT : TL M L) : f_X10_faultOfPalace M = some (match plF (txN M) L L 0 with
    | none => -1
    | some f => nI f, up M 1 2 80) := by
  have hT' : TL (up M 1 2 80) L := by
    obtain ⟨l80, e1, e2, ht⟩ := hT
    refine ⟨l80, by rw [up_col _ _ _ (by decide)]; exact e1, by rw [up_row _ _ _ (by decide)]; exact e2, fun k hk => ?_⟩
    rw [txN_eq (M := M) (M' := up M 1 2 80) (fun k => by rw [up_row _ _ _ (by decide)]), up_row _ _ _ (by decide), up_row _ _ _ (by decide)]
    exact ht k hk
  have etx : txN (up M 1 2 80) = txN M := txN_eq (fun k => by rw [up_row _ _ _ (by decide)])
  have l80 := hT.1
  have key : ∀ (m k n : Nat), k + m = L → m < n → f_X10_faultOfPalace_11 n (nI k) (up M 1 2 80) = some (match plF (txN M) L m k with
      | none => -1
      | some f => nI f, up M 1 2 80) := by
    intro m
    induction m with
    | zero =>
      intro k n hk hn
      obtain ⟨n, rfl⟩ : ∃ n', n = n' + 1 := ⟨n - 1, by omega⟩
      unfold f_X10_faultOfPalace_11 f_X10_faultOfPalace_72 plF
      rw [hT'.2.1, if_neg (nI_nlt (by omega) (by omega))]
      by_cases h0 : L = 0
      · rw [if_pos (by rw [h0]; rfl), if_pos h0]; rfl
      · rw [if_neg (nI_ne0 (by omega) (by omega)), if_neg h0]
    | succ m ih =>
      intro k n hk hn
      obtain ⟨n, rfl⟩ : ∃ n', n = n' + 1 := ⟨n - 1, by omega⟩
      have iH := ih (k + 1) n (by omega) (by omega)
      have ht := hT'.2.2.2 k (by omega)
      rw [etx] at ht
      unfold f_X10_faultOfPalace_11 f_X10_faultOfPalace_51 f_X10_faultOfPalace_49 plF
      rw [hT'.2.1, if_pos (nI_lt (by omega) (by omega)), at_spec (mo := 80) hT' (up_self _ _ _ _) (by decide) (by omega), bd_e, if_pos (show k < L by omega), if_pos (show k < 80 by omega), etx]
      simp only [vl, nI_1]
      by_cases h6 : k < 6
      · rw [if_pos (show nI k < 6 from nI_lt (b := 6) h6 (by decide))]
        by_cases h1 : txN M k = 114
        · rw [if_pos (show nI (txN M k) = 114 by rw [h1]; rfl), if_pos ⟨h6, Or.inl h1⟩]
          exact iH
        · rw [if_neg (show ¬ nI (txN M k) = 114 from fun z => h1 ((nI_eq (b := 114) (by omega) (by decide)).mp z))]
          by_cases h2 : txN M k = 99
          · rw [if_pos (show nI (txN M k) = 99 by rw [h2]; rfl), if_pos ⟨h6, Or.inr h2⟩]
            exact iH
          · rw [if_neg (show ¬ nI (txN M k) = 99 from fun z => h2 ((nI_eq (b := 99) (by omega) (by decide)).mp z)), if_neg (fun z => by omega)]
      · rw [if_neg (show ¬ nI k < 6 from nI_nlt (b := 6) (by omega) (by omega)), if_neg (fun z => h6 z.1)]
  unfold f_X10_faultOfPalace f_X10_faultOfPalace_0
  simp only [ml]
  exact key L 0 FU (by omega) (by show L < 2000; omega)
def sm0 : Sm := (fun _ => 0, fun _ => 0, fun _ => 0, fun _ => 0, 0)
theorem ok_sm0 (C : Cf) : Ok C sm0 := ⟨fun _ => Or.inl (Nat.zero_le _), fun _ _ => rfl, fun _ _ => rfl, fun _ _ => rfl, fun _ => Nat.zero_le _, fun _ _ => rfl, fun _ => Nat.zero_le _, fun g h => absurd (show (0 : Nat) = 10 from h) (by decide), fun _ => Nat.zero_le _, fun g h _ _ hi => absurd (show ins 0 = true from hi) (by decide)⟩
theorem clear_spec {M : Mem} (C : Cf) : wp (f_X7_clear 26 M) (fun _ M' => IsC C M' 26 sm0 ∧ Fr (stS 26) M M') := by
  unfold f_X7_clear f_X7_clear_0
  rw [wp_ml, wp_ml, wp_ml, wp_ml]
  have hF : Fr (stS 26) M (up (up (up (up M 26 0 0) 26 1 0) 26 2 0) 26 3 0) := (((Fr.rf.up ⟨by omega, by omega⟩).up ⟨by omega, by omega⟩).up ⟨by omega, by omega⟩).up ⟨by omega, by omega⟩
  refine wp_for (α := Unit) (fun m _ x M => f_X7_clear_22 26 m x M) 6 (fun k _ M1 => (∀ j, j < k → M1 27 j = -1 ∧ M1 28 j = 0 ∧ M1 29 j = 0 ∧ M1 30 j = -1) ∧ M1 26 0 = 0 ∧ M1 26 1 = 0 ∧ Fr (stS 26) M M1) _ (fun m k _ M1 hk hJ kk => ?_) (fun m _ M1 hJ => ?_) 6 0 FU () _ (by omega) (by decide) ⟨fun j hj => absurd hj (Nat.not_lt_zero j), by simp [up_at], by simp [up_at], hF⟩
  · obtain ⟨j1, j2, j3, j4⟩ := hJ
    show wp (f_X7_clear_22 26 (m + 1) (nI k) M1) _
    unfold f_X7_clear_22
    rw [if_pos (show nI k < 6 from nI_lt (b := 6) hk (by decide))]
    simp only [gd_t (nI_inc hk (show 6 ≤ 1000 by decide)), nI_clamp (show k < 2 ^ 31 by omega)]
    rw [wp_ml, wp_ml, wp_ml, wp_ml, wp_vl, nI_1]
    refine kk () _ ⟨fun j hj => ?_, ?_, ?_, (((j4.up ⟨by omega, by omega⟩).up ⟨by omega, by omega⟩).up ⟨by omega, by omega⟩).up ⟨by omega, by omega⟩⟩
    · by_cases e : j = k
      · subst e
        refine ⟨?_, ?_, ?_, ?_⟩ <;> simp [up_at]
      · obtain ⟨d1, d2, d3, d4⟩ := j1 j (by omega)
        refine ⟨?_, ?_, ?_, ?_⟩ <;> simp [up_at, e, d1, d2, d3, d4]
    · simp [up_at, j2]
    · simp [up_at, j3]
  · obtain ⟨j1, j2, j3, j4⟩ := hJ
    show wp (f_X7_clear_22 26 (m + 1) (nI 6) M1) _
    unfold f_X7_clear_22
    rw [if_neg (by decide), wp_s]
    refine ⟨⟨fun g hg => (j1 g hg).1, fun g hg => (j1 g hg).2.1, fun g hg => (j1 g hg).2.2.1, fun g hg => (j1 g hg).2.2.2, j2, fun r hr => ?_⟩, j4⟩
    rw [j3]
    constructor
    · intro z; exact absurd z (bit_0 hr)
    · rintro ⟨-, -, z⟩
      obtain ⟨g, -, hg⟩ := occ_t.mp z
      have : (0 : Nat) = r + 1 := hg
      omega
/-- the cells that a new palace changes -/
def plX : Nat → Nat → Prop := fun i k => i = 3 ∨ (26 ≤ i ∧ i ≤ 30) ∨ (i = 46 ∧ k = 2) ∨ i = 109 ∨ (i = 120 ∧ k = 3) ∨ (i = 1 ∧ (k = 1 ∨ k = 2))
theorem build_cls {M : Mem} {L : Nat} (C : Cf) (hT : TL M L) (hm : M 1 2 = 80) (hL6 : L ≤ 6) : wp (f_X10_buildPalace M) (fun _ M' => IsC C M' 26 sm0 ∧ M' 3 0 = nI L ∧ M' 3 2 = 0 ∧ (∀ r, r < L → (bit (M' 3 1) (nI r) ↔ txN M r = 99)) ∧ M' 46 2 = 0 ∧ M' 120 3 = 0 ∧ M' 109 0 = -1 ∧ M' 109 1 = -1 ∧ M' 1 1 = nI L ∧ Fr plX M M') := by
  obtain ⟨l80, e1, e2, ht⟩ := id hT
  unfold f_X10_buildPalace f_X10_buildPalace_0
  rw [wp_ml, wp_ml, wp_ml, e1]
  have hF : Fr (fun i _ => i = 3) M (up (up (up M 3 0 (nI L)) 3 1 0) 3 2 0) := ((Fr.up (S := fun i _ => i = 3) Fr.rf rfl).up rfl).up rfl
  refine wp_for (α := Unit) (fun m _ x M => f_X10_buildPalace_32 m x M) L (fun k _ M1 => M1 3 0 = nI L ∧ M1 3 2 = 0 ∧ (∀ r, r < 32 → (bit (M1 3 1) (nI r) ↔ r < k ∧ txN M r = 99)) ∧ Fr (fun i _ => i = 3) M M1) _ (fun m k _ M1 hk hJ kk => ?_) (fun m _ M1 hJ => ?_) L 0 FU () _ (by omega) (by show L < 2000; omega) ⟨by simp [up_at], by simp [up_at], fun r hr => ?_, hF⟩
  · obtain ⟨j1, j2, j3, j4⟩ := hJ
    have hT1 : TL M1 L := ⟨l80, (j4 1 1 (by decide)).trans e1, (j4 174 11 (by decide)).trans e2, fun q hq => by
      rw [txN_eq (M := M) (M' := M1) (fun k => j4 2 k (show ¬ 2 = 3 by decide)), j4 2 q (show ¬ 2 = 3 by decide), j4 183 q (show ¬ 183 = 3 by decide)]
      exact ht q hq⟩
    have hk2 := (ht k (by omega)).1
    show wp (f_X10_buildPalace_32 (m + 1) (nI k) M1) _
    unfold f_X10_buildPalace_32 f_X10_buildPalace_71
    rw [hT1.2.1, if_pos (nI_lt hk (by omega)), at_spec (mo := 80) hT1 ((j4 1 2 (by decide)).trans hm) (by decide) (by omega), bd_e, if_pos (show k < L by omega), if_pos (show k < 80 by omega), txN_eq (M := M) (M' := M1) (fun k => j4 2 k (show ¬ 2 = 3 by decide))]
    by_cases h9 : txN M k = 99
    · rw [if_pos (show nI (txN M k) = 99 by rw [h9]; rfl), wp_ml, wp_vl, nI_1]
      refine kk () _ ⟨by rw [up_col _ _ _ (by decide)]; exact j1, by rw [up_col _ _ _ (by decide)]; exact j2, fun r hr => ?_, j4.up rfl⟩
      rw [up_self, bit_or _ _ hr, j3 r hr, bit_one (by omega) hr]
      constructor
      · rintro (z | z)
        · exact ⟨by omega, z.2⟩
        · subst z; exact ⟨by omega, h9⟩
      · rintro ⟨z1, z2⟩
        by_cases e : r = k
        · exact Or.inr e
        · exact Or.inl ⟨by omega, z2⟩
    · rw [if_neg (show ¬ nI (txN M k) = 99 from fun z => h9 ((nI_eq (b := 99) (by omega) (by decide)).mp z)), wp_vl, nI_1]
      refine kk () _ ⟨j1, j2, fun r hr => ?_, j4⟩
      rw [j3 r hr]
      constructor
      · rintro ⟨z1, z2⟩; exact ⟨by omega, z2⟩
      · rintro ⟨z1, z2⟩
        exact ⟨by
          have : r ≠ k := fun e => by subst e; exact h9 z2
          omega, z2⟩
  · obtain ⟨j1, j2, j3, j4⟩ := hJ
    have e11 : M1 1 1 = nI L := (j4 1 1 (by decide)).trans e1
    show wp (f_X10_buildPalace_32 (m + 1) (nI L) M1) _
    unfold f_X10_buildPalace_32
    rw [e11, if_neg (nI_nlt (Nat.le_refl _) (by omega)), wp_bd]
    refine wp_mono (clear_spec C) (fun _ M2 q => ?_)
    obtain ⟨q1, q2⟩ := q
    unfold f_X6_clear f_X6_clear_0
    rw [wp_bd, wp_ml, wp_s, wp_ml]
    refine wp_for (α := Unit) (fun m _ x M => f_X10_buildPalace_101 m x M) 2 (fun k _ M3 => (∀ j, j < k → M3 109 j = -1) ∧ ∀ i j, i ≠ 109 → M3 i j = up (up M2 46 2 0) 120 3 0 i j) _ (fun m k _ M3 hk hJ kk => ?_) (fun m _ M3 hJ => ?_) 2 0 FU () _ (by omega) (by decide) ⟨fun j hj => absurd hj (Nat.not_lt_zero j), fun i j _ => rfl⟩
    · show wp (f_X10_buildPalace_101 (m + 1) (nI k) M3) _
      unfold f_X10_buildPalace_101
      rw [if_pos (show nI k < 2 from nI_lt (b := 2) hk (by decide)), gd_t (nI_inb hk (by decide)), nI_clamp (by omega), wp_ml, wp_vl, nI_1]
      refine kk () _ ⟨fun j hj => ?_, fun i j hi => by rw [up_row _ _ _ hi]; exact hJ.2 i j hi⟩
      by_cases e : j = k
      · subst e; rw [up_self]
      · rw [up_col _ _ _ e]; exact hJ.1 j (by omega)
    · show wp (f_X10_buildPalace_101 (m + 1) (nI 2) M3) _
      unfold f_X10_buildPalace_101
      rw [if_neg (by decide), wp_s]
      obtain ⟨k1, k2⟩ := hJ
      have f3 : ∀ i j, i ≠ 109 → ¬ (i = 46 ∧ j = 2) → ¬ (i = 120 ∧ j = 3) → M3 i j = M2 i j := fun i j h1 h2 h3 => by rw [k2 i j h1, up_at, if_neg h3, up_at, if_neg h2]
      have f4 : ∀ i j, i ≠ 109 → ¬ (i = 46 ∧ j = 2) → ¬ (i = 120 ∧ j = 3) → ¬ (26 ≤ i ∧ i ≤ 30) → M3 i j = M1 i j := fun i j h1 h2 h3 h4 => (f3 i j h1 h2 h3).trans (q2 i j (by unfold stS; omega))
      refine ⟨IsC.eq (fun i k e1 e2 _ => f3 i k (by omega) (by omega) (by omega)) q1, (f4 3 0 (by omega) (by omega) (by omega) (by omega)).trans j1, (f4 3 2 (by omega) (by omega) (by omega) (by omega)).trans j2, fun r hr => ?_, ?_, ?_, k1 0 (by decide), k1 1 (by decide), (f4 1 1 (by omega) (by omega) (by omega) (by omega)).trans e11, fun i k hn => ?_⟩
      · rw [f4 3 1 (by omega) (by omega) (by omega) (by omega), j3 r (by omega)]
        exact ⟨fun z => z.2, fun z => ⟨hr, z⟩⟩
      · rw [k2 46 2 (by decide), up_row _ _ _ (by decide), up_self]
      · rw [k2 120 3 (by decide), up_self]
      · unfold plX at hn
        rw [f4 i k (by omega) (by omega) (by omega) (by omega)]
        exact j4 i k (by omega)
  · simp only [up_at]
    constructor
    · intro z; exact absurd z (bit_0 hr)
    · intro z; omega
theorem pal_ref {M : Mem} {t : Nat → Nat} {L : Nat} (hL : L ≤ 80) (e11 : M 174 11 = nI L) (ht : ∀ k, k < 80 → t k < 256 ∧ M 183 k = sB (t k)) : wp (f_X11_palace M) (fun r M' => match plF t L L 0 with
    | none => r = nI L ∧ M' 174 1 = nI L ∧ M' 174 3 = 0 ∧ M' 175 24 = 0 ∧ M' 174 52 = 0 ∧ M' 174 28 = 0 ∧ M' 174 11 = 0 ∧ (∀ k, k < L → M' 176 k = b2i (t k = 99)) ∧ M' 202 0 = 0 ∧ M' 202 1 = 0 ∧ Fr (fun i k => i = 175 ∨ i = 176 ∨ i = 202 ∨ (i = 174 ∧ (k = 1 ∨ k = 3 ∨ k = 11 ∨ k = 14 ∨ k = 28 ∨ k = 52))) M M'
    | some f => r = -1 - nI f ∧ M' 174 11 = 0 ∧ Fr (fun i k => i = 174 ∧ (k = 11 ∨ k = 14)) M M') := by
  unfold f_X11_palace f_X11_palace_0
  rw [wp_ml, wp_vl, wp_ml, up_col _ _ _ (by decide), e11]
  have hF0 : Fr (fun i k => i = 174 ∧ (k = 11 ∨ k = 14)) M (up (up M 174 14 0) 174 11 0) := (Fr.up (S := fun i k => i = 174 ∧ (k = 11 ∨ k = 14)) Fr.rf ⟨rfl, by omega⟩).up ⟨rfl, by omega⟩
  have k183 : ∀ k, up (up M 174 14 0) 174 11 0 183 k = M 183 k := fun k => hF0 183 k (by omega)
  have key : ∀ (m k n : Nat), k + m = L → m < n → (∀ j, j < k → j < 6 ∧ (t j = 114 ∨ t j = 99)) → wp (f_X11_palace_17 n (nI L) (nI k) (up (up M 174 14 0) 174 11 0)) (fun r M' => match plF t L m k with
      | none => r = nI L ∧ M' 174 1 = nI L ∧ M' 174 3 = 0 ∧ M' 175 24 = 0 ∧ M' 174 52 = 0 ∧ M' 174 28 = 0 ∧ M' 174 11 = 0 ∧ (∀ k, k < L → M' 176 k = b2i (t k = 99)) ∧ M' 202 0 = 0 ∧ M' 202 1 = 0 ∧ Fr (fun i k => i = 175 ∨ i = 176 ∨ i = 202 ∨ (i = 174 ∧ (k = 1 ∨ k = 3 ∨ k = 11 ∨ k = 14 ∨ k = 28 ∨ k = 52))) M M'
      | some f => r = -1 - nI f ∧ M' 174 11 = 0 ∧ Fr (fun i k => i = 174 ∧ (k = 11 ∨ k = 14)) M M') := by
    intro m
    induction m with
    | zero =>
      intro k n hk hn hj
      obtain ⟨n, rfl⟩ : ∃ n', n = n' + 1 := ⟨n - 1, by omega⟩
      unfold f_X11_palace_17 plF
      rw [if_neg (nI_nlt (by omega) (by omega))]
      by_cases h0 : L = 0
      · subst h0
        rw [if_pos (by decide), wp_s]
        exact ⟨by decide, up_self _ _ _ _, hF0⟩
      · rw [if_neg (nI_ne0 (by omega) (by omega))]
        simp only [if_neg h0]
        have l6 : L ≤ 6 := by have := (hj (L - 1) (by omega)).1; omega
        refine wp_for (α := Unit) (fun m _ x M => f_X11_palace_68 m (nI L) x M) L (fun q _ M1 => (∀ j, j < q → M1 176 j = b2i (t j = 99)) ∧ ∀ i j, i ≠ 176 → M1 i j = up (up M 174 14 0) 174 11 0 i j) _ (fun m q _ M1 hq hJ kk => ?_) (fun m _ M1 hJ => ?_) L 0 FU () _ (by omega) (by show L < 2000; omega) ⟨fun j hj => absurd hj (Nat.not_lt_zero j), fun i j _ => rfl⟩
        · have tq := ht q (by omega)
          show wp (f_X11_palace_68 (m + 1) (nI L) (nI q) M1) _
          have st : ∀ c : Int32, vp_nar .boolean c = b2i (t q = 99) → wp (f_X11_palace_94 (f_X11_palace_68 m) (nI L) (nI q) (nI q) c M1) _ := fun c hc => by
            unfold f_X11_palace_94
            rw [gd_t (nI_inb (show q < 6 by omega) (by decide)), nI_clamp (by omega), wp_ml, wp_vl, nI_1]
            refine kk () _ ⟨fun j hj => ?_, fun i j hi => by rw [up_row _ _ _ hi]; exact hJ.2 i j hi⟩
            by_cases e : j = q
            · subst e; rw [up_self]; exact hc
            · rw [up_col _ _ _ e]; exact hJ.1 j (by omega)
          unfold f_X11_palace_68
          rw [if_pos (nI_lt hq (by omega)), gd_t (nI_inb (show q < 80 by omega) (by decide)), nI_clamp (by omega), hJ.2 183 q (by decide), k183, tq.2]
          by_cases h9 : t q = 99
          · rw [if_pos (show sB (t q) = 99 from (sB_eq (c := 99) tq.1 (by decide)).mpr h9)]
            exact st 1 (by rw [b2i_t h9]; decide)
          · rw [if_neg (show ¬ sB (t q) = 99 from fun z => h9 ((sB_eq (c := 99) tq.1 (by decide)).mp z))]
            exact st 0 (by rw [b2i_f h9]; decide)
        · show wp (f_X11_palace_68 (m + 1) (nI L) (nI L) M1) _
          unfold f_X11_palace_68
          rw [if_neg (nI_nlt (Nat.le_refl _) (by omega)), wp_ml, wp_ml, gd_t (by decide), wp_ml, wp_ml, wp_ml, c24]
          refine wp_for (α := Unit) (fun m _ x M => f_X11_palace_131 m (nI L) x M) 2 (fun q _ M2 => (∀ j, j < q → M2 202 j = 0) ∧ ∀ i j, i ≠ 202 → M2 i j = up (up (up (up (up M1 174 1 (nI L)) 174 3 0) 175 24 0) 174 52 0) 174 28 0 i j) _ (fun m q _ M2 hq hJ2 kk => ?_) (fun m _ M2 hJ2 => ?_) 2 0 FU () _ (by omega) (by decide) ⟨fun j hj => absurd hj (Nat.not_lt_zero j), fun i j _ => rfl⟩
          · show wp (f_X11_palace_131 (m + 1) (nI L) (nI q) M2) _
            unfold f_X11_palace_131
            rw [if_pos (show nI q < 2 from nI_lt (b := 2) hq (by decide)), gd_t (nI_inb hq (by decide)), nI_clamp (by omega), wp_ml, wp_vl, nI_1]
            refine kk () _ ⟨fun j hj => ?_, fun i j hi => by rw [up_row _ _ _ hi]; exact hJ2.2 i j hi⟩
            by_cases e : j = q
            · subst e; rw [up_self]; decide
            · rw [up_col _ _ _ e]; exact hJ2.1 j (by omega)
          · show wp (f_X11_palace_131 (m + 1) (nI L) (nI 2) M2) _
            unfold f_X11_palace_131
            rw [if_neg (by decide), wp_s]
            obtain ⟨k1, k2⟩ := hJ2
            refine ⟨rfl, ?_, ?_, ?_, ?_, ?_, ?_, fun q hq => ?_, k1 0 (by decide), k1 1 (by decide), fun i q hn => ?_⟩
            · rw [k2 174 1 (by decide)]; simp [up_at]
            · rw [k2 174 3 (by decide)]; simp [up_at]
            · rw [k2 175 24 (by decide)]; simp [up_at]
            · rw [k2 174 52 (by decide)]; simp [up_at]
            · rw [k2 174 28 (by decide)]; simp [up_at]
            · rw [k2 174 11 (by decide)]; simp [up_at, hJ.2 174 11 (by decide)]
            · rw [k2 176 q (by decide), up_row _ _ _ (by decide), up_row _ _ _ (by decide), up_row _ _ _ (by decide), up_row _ _ _ (by decide), up_row _ _ _ (by decide)]; exact hJ.1 q hq
            · rw [k2 i q (by omega), up_at, if_neg (by omega), up_at, if_neg (by omega), up_at, if_neg (by omega), up_at, if_neg (by omega), up_at, if_neg (by omega), hJ.2 i q (by omega)]
              exact hF0 i q (by omega)
    | succ m ih =>
      intro k n hk hn hj
      obtain ⟨n, rfl⟩ : ∃ n', n = n' + 1 := ⟨n - 1, by omega⟩
      have tk := ht k (by omega)
      unfold f_X11_palace_17 f_X11_palace_54 f_X11_palace_50
      rw [if_pos (nI_lt (by omega) (by omega))]
      have bad : ¬ (k < 6 ∧ (t k = 114 ∨ t k = 99)) → wp (some (-1 - nI k, up (up M 174 14 0) 174 11 0)) (fun r M' => match plF t L (m + 1) k with
          | none => r = nI L ∧ M' 174 1 = nI L ∧ M' 174 3 = 0 ∧ M' 175 24 = 0 ∧ M' 174 52 = 0 ∧ M' 174 28 = 0 ∧ M' 174 11 = 0 ∧ (∀ k, k < L → M' 176 k = b2i (t k = 99)) ∧ M' 202 0 = 0 ∧ M' 202 1 = 0 ∧ Fr (fun i k => i = 175 ∨ i = 176 ∨ i = 202 ∨ (i = 174 ∧ (k = 1 ∨ k = 3 ∨ k = 11 ∨ k = 14 ∨ k = 28 ∨ k = 52))) M M'
          | some f => r = -1 - nI f ∧ M' 174 11 = 0 ∧ Fr (fun i k => i = 174 ∧ (k = 11 ∨ k = 14)) M M') := by
        intro hb
        unfold plF
        simp only [if_neg hb]
        rw [wp_s]
        exact ⟨rfl, up_self _ _ _ _, hF0⟩
      have good : k < 6 ∧ (t k = 114 ∨ t k = 99) → wp (vl (nI k + 1) fun v25 => f_X11_palace_17 n (nI L) v25 (up (up M 174 14 0) 174 11 0)) (fun r M' => match plF t L (m + 1) k with
          | none => r = nI L ∧ M' 174 1 = nI L ∧ M' 174 3 = 0 ∧ M' 175 24 = 0 ∧ M' 174 52 = 0 ∧ M' 174 28 = 0 ∧ M' 174 11 = 0 ∧ (∀ k, k < L → M' 176 k = b2i (t k = 99)) ∧ M' 202 0 = 0 ∧ M' 202 1 = 0 ∧ Fr (fun i k => i = 175 ∨ i = 176 ∨ i = 202 ∨ (i = 174 ∧ (k = 1 ∨ k = 3 ∨ k = 11 ∨ k = 14 ∨ k = 28 ∨ k = 52))) M M'
          | some f => r = -1 - nI f ∧ M' 174 11 = 0 ∧ Fr (fun i k => i = 174 ∧ (k = 11 ∨ k = 14)) M M') := by
        intro hg
        unfold plF
        simp only [if_pos hg]
        rw [wp_vl, nI_1]
        refine ih (k + 1) n (by omega) (by omega) (fun j hj2 => ?_)
        by_cases e : j = k
        · subst e; exact hg
        · exact hj j (by omega)
      have k6 : k ≤ 6 := by
        by_cases h0 : k = 0
        · omega
        · have := (hj (k - 1) (by omega)).1; omega
      by_cases h6 : k = 6
      · rw [if_pos (show nI k = 6 by rw [h6]; rfl)]
        exact bad (by omega)
      · rw [if_neg (show ¬ nI k = 6 from fun z => h6 ((nI_eq (b := 6) (by omega) (by decide)).mp z)), gd_t (nI_inb (show k < 80 by omega) (by decide)), nI_clamp (by omega), k183, tk.2]
        by_cases h1 : t k = 114
        · rw [if_pos (show sB (t k) = 114 from (sB_eq (c := 114) tk.1 (by decide)).mpr h1)]
          exact good ⟨by omega, Or.inl h1⟩
        · rw [if_neg (show ¬ sB (t k) = 114 from fun z => h1 ((sB_eq (c := 114) tk.1 (by decide)).mp z)), gd_t (nI_inc (show k < 80 by omega) (by decide))]
          by_cases h2 : t k = 99
          · rw [if_pos (show sB (t k) = 99 from (sB_eq (c := 99) tk.1 (by decide)).mpr h2)]
            exact good ⟨by omega, Or.inr h2⟩
          · rw [if_neg (show ¬ sB (t k) = 99 from fun z => h2 ((sB_eq (c := 99) tk.1 (by decide)).mp z))]
            exact bad (by omega)
  exact key L 0 FU (by omega) (by show L < 2000; omega) (fun j hj => absurd hj (Nat.not_lt_zero j))
