/-! sheet -/
def nine (x : Int32) : Int32 := if (0 : Int32) < (if x < (9 : Int32) then x else 9) then (if x < (9 : Int32) then x else 9) else 0
theorem nine_n (v : Int32) : ∃ k, k ≤ 9 ∧ nine v = nI k := by
  unfold nine
  by_cases h : v < 9
  · rw [if_pos h]
    by_cases h0 : 0 < v
    · rw [if_pos h0]
      have h1 : ¬ v < 0 := fun q => by
        rw [Int32.lt_iff_toInt_lt] at q h0
        have : (0 : Int32).toInt = 0 := by decide
        omega
      obtain ⟨j, hj, rfl⟩ := nI_of h1
      have := (nI_ltI (b := 9) hj (by decide)).mp h
      exact ⟨j, by omega, rfl⟩
    · rw [if_neg h0]; exact ⟨0, by decide, rfl⟩
  · rw [if_neg h, if_pos (by decide)]; exact ⟨9, by decide, rfl⟩
def entV (kind v : Int32) : Int32 := nine (if kind = 0 then v.toInt8.toInt32 else if kind = 1 then v.toInt16.toInt32 else v)
def eV (kind n f step : Int32) (g : Nat) : Int32 := if kind = 3 then 0 else if nI g < n then entV kind (f + nI g * step) else 0
theorem eV_n (kind n f step : Int32) (g : Nat) : ∃ k, k ≤ 9 ∧ eV kind n f step g = nI k := by
  unfold eV
  split
  · exact ⟨0, by decide, rfl⟩
  · split
    · exact nine_n _
    · exact ⟨0, by decide, rfl⟩
theorem entryOf_spec (kind v : Int32) (M : Mem) : f_X10_entryOf kind v M = some (entV kind v, M) := by
  unfold f_X10_entryOf f_X10_entryOf_0 f_X10_entryOf_20 entV nine
  simp only [vl]
  by_cases h0 : kind = 0
  · rw [if_pos h0, if_pos h0]
  · rw [if_neg h0, if_neg h0]
    by_cases h1 : kind = 1
    · rw [if_pos h1, if_pos h1]
    · rw [if_neg h1, if_neg h1]
def eSum (kind n f step : Int32) (k : Nat) : Int32 := foldF (fun g a => a + eV kind n f step g) k 0 0
def shS (r : Nat) : Nat → Nat → Prop := fun i k => 10 ≤ i ∧ i ≤ 15 ∧ k = r
theorem sheet58 {C : Cf} {M : Mem} {R : Nat} {t : Nat → Nat} {r : Nat} {kind n f step en : Int32} (hC : COk C) (hM : CfC M C) (hRu : RuC M R t) (hr : r < C.1) (hen : ∀ g, g < C.2.1 → (if nI g < en then entV kind (f + nI g * step) else 0) = eV kind n f step g) : wp (f_X10_sheet_58 FU (nI r) kind f step en 0 0 M) (fun v M' => v = (if kind = 3 then -3 else eSum kind n f step C.2.1) ∧ (∀ g, g < C.2.1 → M' (10 + g) r = eV kind n f step g) ∧ (∀ g, g < C.2.1 → ∀ q, q < C.1 → M' (17 + g) q = stV M' C R t g q) ∧ RuC M' R t ∧ Fr (fun i k => shS r i k ∨ reS i k) M M') := by
  have c1 := hC.1
  have c2 := hC.2.1
  refine wp_for (α := Int32) (fun m a x M => f_X10_sheet_58 m (nI r) kind f step en a x M) C.2.1 (fun k a M1 => a = eSum kind n f step k ∧ (∀ g, g < k → M1 (10 + g) r = eV kind n f step g) ∧ Fr (shS r) M M1) _ (fun m g a M1 hg hJ kk => ?_) (fun m a M1 hJ => ?_) C.2.1 0 FU 0 M (by omega) (by show C.2.1 < 2000; omega) ⟨rfl, fun g hg => absurd hg (Nat.not_lt_zero g), Fr.rf⟩
  · obtain ⟨j1, j2, j3⟩ := hJ
    have m1 : CfC M1 C := hM.eq2 c2 (fun i k z => j3 i k (by unfold cHo at z; unfold shS; omega))
    show wp (f_X10_sheet_58 (m + 1) (nI r) kind f step en a (nI g) M1) _
    have fin : ∀ v : Int32, v = eV kind n f step g → wp (f_X10_sheet_93 (f_X10_sheet_58 m) (nI r) kind f step en a (nI g) v M1) (fun v M' => v = (if kind = 3 then -3 else eSum kind n f step C.2.1) ∧ (∀ g, g < C.2.1 → M' (10 + g) r = eV kind n f step g) ∧ (∀ g, g < C.2.1 → ∀ q, q < C.1 → M' (17 + g) q = stV M' C R t g q) ∧ RuC M' R t ∧ Fr (fun i k => shS r i k ∨ reS i k) M M') := by
      intro v hv
      unfold f_X10_sheet_93
      rw [gd_t (nI_inb (show g < 6 by omega) (by decide)), gd_t (nI_inb (show r < 6 by omega) (by decide)), nI_clamp (by omega), nI_clamp (by omega), wp_ml, wp_vl, wp_vl, nI_1]
      refine kk _ _ ⟨?_, fun j hj => ?_, j3.up ⟨by omega, by omega, rfl⟩⟩
      · have fl := foldF_last (fun g a => a + eV kind n f step g) g 0 (0 : Int32)
        rw [Nat.zero_add] at fl
        show a + v = foldF (fun g a => a + eV kind n f step g) (g + 1) 0 0
        rw [fl, hv, j1]
        rfl
      · by_cases e : j = g
        · subst e; rw [up_self]; exact hv
        · rw [up_row _ _ _ (by omega)]; exact j2 j (by omega)
    have he := hen g hg
    unfold f_X10_sheet_58
    rw [m1.2.1, if_pos (nI_lt hg (by omega))]
    by_cases h1 : nI g < en
    · rw [if_pos h1] at he ⊢
      rw [entryOf_spec, bd_e]
      exact fin _ he
    · rw [if_neg h1] at he ⊢
      exact fin _ he
  · obtain ⟨j1, j2, j3⟩ := hJ
    have m1 : CfC M1 C := hM.eq2 c2 (fun i k z => j3 i k (by unfold cHo at z; unfold shS; omega))
    have ru1 : RuC M1 R t := hRu.fr (j3 23 1 (by unfold shS; omega)) (fun k => j3 24 k (by unfold shS; omega))
    show wp (f_X10_sheet_58 (m + 1) (nI r) kind f step en a (nI C.2.1) M1) _
    unfold f_X10_sheet_58 f_X10_sheet_141
    rw [m1.2.1, if_neg (nI_nlt (Nat.le_refl _) (by omega)), wp_bd]
    refine wp_mono (reckon_spec c1 c2 (HsC.of m1) ru1) (fun _ M2 q => ?_)
    obtain ⟨q1, q2⟩ := q
    have hpost : (∀ g, g < C.2.1 → M2 (10 + g) r = eV kind n f step g) ∧ (∀ g, g < C.2.1 → ∀ q, q < C.1 → M2 (17 + g) q = stV M2 C R t g q) ∧ RuC M2 R t ∧ Fr (fun i k => shS r i k ∨ reS i k) M M2 := by
      refine ⟨fun g hg => (q2 (10 + g) r (by unfold reS; omega)).trans (j2 g hg), fun g hg q hq => ?_, ru1.fr (q2 23 1 (by unfold reS; omega)) (fun k => q2 24 k (by unfold reS; omega)), (j3.mn (fun i k z => Or.inl z)).tr (q2.mn (fun i k z => Or.inr z))⟩
      rw [q1 g hg q hq]
      unfold stV
      rw [q2 8 g (by unfold reS; omega), q2 (10 + g) q (by unfold reS; omega), q2 6 g (by unfold reS; omega)]
    by_cases h3 : kind = 3
    · rw [if_pos h3, wp_s, if_pos h3]
      exact ⟨rfl, hpost⟩
    · rw [if_neg h3, wp_s, if_neg h3]
      exact ⟨j1, hpost⟩
theorem sheet52 {C : Cf} {M : Mem} {r : Nat} {kind n f step : Int32} (hC : COk C) (hM : CfR M C) (hr : r < C.1) : wp (f_X11_sheet_52 FU (nI r) kind n step 0 f 0 M) (fun v M' => v = (if kind = 3 then -3 else eSum kind n f step C.2.1) ∧ (∀ g, g < C.2.1 → M' 181 (6 * g + r) = eV kind n f step g) ∧ (∀ g q, g < C.2.1 → q < C.1 → q ≠ r → M' 181 (6 * g + q) = M 181 (6 * g + q)) ∧ ∀ i, i ≠ 181 → M' i = M i) := by
  have c1 := hC.1
  have c2 := hC.2.1
  refine wp_for (α := Int32 × Int32) (fun m a x M => f_X11_sheet_52 m (nI r) kind n step a.1 a.2 x M) C.2.1 (fun k a M1 => a.1 = eSum kind n f step k ∧ a.2 = f + nI k * step ∧ (∀ g, g < k → M1 181 (6 * g + r) = eV kind n f step g) ∧ (∀ g q, g < C.2.1 → q < C.1 → q ≠ r → M1 181 (6 * g + q) = M 181 (6 * g + q)) ∧ ∀ i, i ≠ 181 → M1 i = M i) _ (fun m g a M1 hg hJ kk => ?_) (fun m a M1 hJ => ?_) C.2.1 0 FU (0, f) M (by omega) (by show C.2.1 < 2000; omega) ⟨rfl, by show f = f + nI 0 * step; rw [nI_0, Int32.zero_mul, Int32.add_zero], fun g hg => absurd hg (Nat.not_lt_zero g), fun _ _ _ _ _ => rfl, fun _ _ => rfl⟩
  · obtain ⟨j1, j2, j3, j4, j5⟩ := hJ
    have m1 : M1 174 3 = nI C.2.1 := by rw [j5 174 (by decide)]; exact hM.2.1
    show wp (f_X11_sheet_52 (m + 1) (nI r) kind n step a.1 a.2 (nI g) M1) _
    have fin : ∀ v : Int32, v = eV kind n f step g → wp (f_X11_sheet_112 (f_X11_sheet_52 m) (nI r) kind n step a.1 a.2 (nI g) v M1) (fun v M' => v = (if kind = 3 then -3 else eSum kind n f step C.2.1) ∧ (∀ g, g < C.2.1 → M' 181 (6 * g + r) = eV kind n f step g) ∧ (∀ g q, g < C.2.1 → q < C.1 → q ≠ r → M' 181 (6 * g + q) = M 181 (6 * g + q)) ∧ ∀ i, i ≠ 181 → M' i = M i) := by
      intro v hv
      unfold f_X11_sheet_112
      rw [lm6, nI_add, gd_t (nI_inb (show 6 * g + r < 36 by omega) (by decide)), nI_clamp (by omega), wp_ml, wp_vl, wp_vl, wp_vl, nI_1]
      refine kk (_, _) _ ⟨?_, ?_, fun j hj => ?_, fun j q hj hq hne => ?_, fun i hi => ?_⟩
      · have fl := foldF_last (fun g a => a + eV kind n f step g) g 0 (0 : Int32)
        rw [Nat.zero_add] at fl
        show a.1 + v = foldF (fun g a => a + eV kind n f step g) (g + 1) 0 0
        rw [fl, hv, j1]
        rfl
      · show a.2 + step = f + nI (g + 1) * step
        rw [j2, ← nI_1, Int32.add_mul, Int32.one_mul, Int32.add_assoc]
      · by_cases e : j = g
        · subst e; rw [up_self]; exact hv
        · rw [up_col _ _ _ (by omega)]; exact j3 j (by omega)
      · rw [up_col _ _ _ (by omega)]; exact j4 j q hj hq hne
      · rw [up_row _ _ _ hi]; exact j5 i hi
    have mid : ∀ e : Int32, (¬ kind = 3 → nI g < n → nine e = entV kind (f + nI g * step)) → wp (f_X11_sheet_84 (f_X11_sheet_52 m) (nI r) kind n step a.1 a.2 (nI g) e M1) (fun v M' => v = (if kind = 3 then -3 else eSum kind n f step C.2.1) ∧ (∀ g, g < C.2.1 → M' 181 (6 * g + r) = eV kind n f step g) ∧ (∀ g q, g < C.2.1 → q < C.1 → q ≠ r → M' 181 (6 * g + q) = M 181 (6 * g + q)) ∧ ∀ i, i ≠ 181 → M' i = M i) := by
      intro e he
      unfold f_X11_sheet_84 f_X11_sheet_97
      by_cases h3 : kind = 3
      · rw [if_pos h3]
        exact fin 0 (by unfold eV; rw [if_pos h3])
      · rw [if_neg h3]
        by_cases hn : nI g < n
        · rw [if_pos hn, wp_vl, wp_vl]
          refine fin _ ?_
          unfold eV
          rw [if_neg h3, if_pos hn, ← he h3 hn]
          rfl
        · rw [if_neg hn]
          exact fin 0 (by unfold eV; rw [if_neg h3, if_neg hn])
    unfold f_X11_sheet_52
    rw [m1, if_pos (nI_lt hg (by omega)), j2]
    rw [j2] at mid
    by_cases h0 : kind = 0
    · rw [if_pos h0]
      exact mid _ (fun _ _ => by unfold entV; rw [if_pos h0])
    · rw [if_neg h0]
      by_cases h1 : kind = 1
      · rw [if_pos h1]
        exact mid _ (fun _ _ => by unfold entV; rw [if_neg h0, if_pos h1])
      · rw [if_neg h1]
        exact mid _ (fun _ _ => by unfold entV; rw [if_neg h0, if_neg h1])
  · obtain ⟨j1, j2, j3, j4, j5⟩ := hJ
    have m1 : M1 174 3 = nI C.2.1 := by rw [j5 174 (by decide)]; exact hM.2.1
    show wp (f_X11_sheet_52 (m + 1) (nI r) kind n step a.1 a.2 (nI C.2.1) M1) _
    unfold f_X11_sheet_52 f_X11_sheet_160
    rw [m1, if_neg (nI_nlt (Nat.le_refl _) (by omega))]
    by_cases h3 : kind = 3
    · rw [if_pos h3, wp_s, if_pos h3]
      exact ⟨rfl, j3, j4, j5⟩
    · rw [if_neg h3, wp_s, if_neg h3]
      exact ⟨j1, j3, j4, j5⟩
theorem st_sheet {N : Nat} {M : Mem} (hN : N < 512) (h : Cpl N M) (x kind n f step : Int32) : Both N (f_X10_sheet x kind n f step) (f_X11_sheet x kind n f step) M := by
  obtain ⟨⟨C, σ, hI⟩, hR⟩ := h
  obtain ⟨a1, a2, a3, a4, a5, a6, a7, a8, a9, a10, ⟨R, t, b1, b2, b3⟩, a12⟩ := id hI
  have c1 := a1.1
  have c2 := a1.2.1
  obtain ⟨m14, -, -⟩ := C14g (Mc := M) hI (fun _ _ _ => rfl)
  have done : Cpl (N + 1) (up M 174 14 0) := q_same hI hN hR fr14
  have noc : f_X11_sheet_0 x kind n f step M = f_X11_sheet_28 (up M 174 14 0) → f_X10_sheet_0 x kind n f step M = some (-1, M) → Both N (f_X10_sheet x kind n f step) (f_X11_sheet x kind n f step) M := by
    intro h1 h2
    unfold Both f_X10_sheet f_X11_sheet
    rw [h2, wp_s, h1]
    unfold f_X11_sheet_28
    rw [wp_s]
    exact ⟨rfl, done⟩
  by_cases h1 : kind < 0
  · refine noc ?_ (by unfold f_X10_sheet_0 f_X10_sheet_26; rw [if_pos h1])
    unfold f_X11_sheet_0
    simp only [ml]
    rw [in_f1 _ h1, bd_e, if_pos rfl]
  by_cases h2 : 3 < kind
  · refine noc ?_ (by unfold f_X10_sheet_0 f_X10_sheet_26; rw [if_neg h1, if_pos h2])
    unfold f_X11_sheet_0
    simp only [ml]
    rw [in_f2 _ h2, bd_e, if_pos rfl]
  by_cases h3 : 6 < n
  · refine noc ?_ (by unfold f_X10_sheet_0 f_X10_sheet_26; rw [if_neg h1, if_neg h2, if_pos h3])
    unfold f_X11_sheet_0
    simp only [ml]
    rw [in_t _ h1 h2, bd_e, if_neg (by decide), if_pos h3]
  rcases gcase C.1 c1 x with ⟨r, hr, rfl⟩ | ⟨hx, _⟩
  rotate_left
  · refine noc ?_ (by unfold f_X10_sheet_0 f_X10_sheet_26; rw [if_neg h1, if_neg h2, if_neg h3, hasR_f a5 hx, bd_e, if_pos rfl])
    unfold f_X11_sheet_0
    simp only [ml]
    rw [in_t _ h1 h2, bd_e, if_neg (by decide), if_neg h3, isR_f a1 m14 hx, bd_e, if_pos rfl]
  obtain ⟨kn, -, k3, rfl⟩ := rng (a := 0) (b := 3) (by decide) (by decide) h1 h2
  have hk3 : nI kn < 3 ↔ ¬ nI kn = 3 := by
    rw [show (3 : Int32) = nI 3 from rfl, nI_ltI (by omega) (by decide), nI_eq (by omega) (by decide)]
    omega
  -- what both do once it is taken
  have main : (¬ nI kn = 3 → ¬ n < 0) → ∀ en : Int32, en = (if nI kn = 3 then 0 else n) → wp (f_X10_sheet_58 FU (nI r) (nI kn) f step en 0 0 M) (fun r0 M1 => wp (f_X11_sheet (nI r) (nI kn) n f step M1) (fun r' M2 => r' = r0 ∧ Cpl (N + 1) M2)) := by
    intro hn0 en hen
    refine wp_mono (sheet58 (n := n) (R := R) (t := t) a1 a5 b1 hr (fun g hg => ?_)) (fun r0 Mc q => ?_)
    · unfold eV
      rw [hen]
      by_cases hk : nI kn = 3
      · rw [if_pos hk, if_pos hk, if_neg (nI_pos (by omega))]
      · rw [if_neg hk, if_neg hk]
    obtain ⟨q1, q2, q3, q4, q5⟩ := q
    have ec : ∀ i k, ¬ shS r i k → ¬ reS i k → Mc i k = M i k := fun i k h1 h2 => q5 i k (fun z => by
      rcases z with z | z
      · exact h1 z
      · exact h2 z)
    have hge : ∀ i k, 174 ≤ i → Mc i k = M i k := fun i k hi => ec i k (by unfold shS; omega) (by unfold reS; omega)
    obtain ⟨n14, -, -⟩ := C14g (Mc := Mc) hI hge
    unfold f_X11_sheet f_X11_sheet_0 f_X11_sheet_42
    have e11 : ∀ Q : Int32 → Mem → Prop, wp (f_X11_sheet_52 FU (nI r) (nI kn) n step 0 f 0 (up Mc 174 14 0)) Q → wp (if nI kn < 3 then if n < 0 then some (-2, up Mc 174 14 0) else f_X11_sheet_52 FU (nI r) (nI kn) n step 0 f 0 (up Mc 174 14 0) else f_X11_sheet_52 FU (nI r) (nI kn) n step 0 f 0 (up Mc 174 14 0)) Q := by
      intro Q hQ
      by_cases hk : nI kn < 3
      · rw [if_pos hk, if_neg (hn0 (hk3.mp hk))]; exact hQ
      · rw [if_neg hk]; exact hQ
    rw [wp_ml, in_t _ h1 h2, bd_e, if_neg (by decide), if_neg h3, isR_t a1 n14 hr, bd_e, if_neg (by decide)]
    refine e11 _ ?_
    refine wp_mono (sheet52 (n := n) (f := f) a1 n14 hr) (fun r' Mr z => ?_)
    obtain ⟨z1, z2, z3, z4⟩ := z
    have er : ∀ i k, i ≠ 181 → ¬ (i = 174 ∧ k = 14) → Mr i k = Mc i k := fun i k h1 h2 => by rw [z4 i h1, up_at, if_neg h2]
    have e0 : ∀ i k, i ≠ 181 → ¬ (i = 174 ∧ k = 14) → ¬ shS r i k → ¬ reS i k → Mr i k = M i k := fun i k h1 h2 h3 h4 => (er i k h1 h2).trans (ec i k h3 h4)
    refine ⟨by rw [q1, z1], ⟨C' C (nst Mr C R t), σ, hI.re (R := R) (t := t) hN ?_ ?_ ?_ ?_ ?_⟩, ?_⟩
    · intro i k hn
      unfold reX scr scr0 at hn
      exact e0 i k (by omega) (by omega) (by unfold shS; omega) (by unfold reS; omega)
    · intro j hj
      obtain ⟨d1, d2, d3, d4, d5, d6⟩ := a10 j hj
      refine ⟨?_, ?_, ?_, ?_, ?_, fun q hq => ?_⟩
      · rw [e0 5 j (by omega) (by omega) (by unfold shS; omega) (by unfold reS; omega), e0 178 j (by omega) (by omega) (by unfold shS; omega) (by unfold reS; omega)]; exact d1
      · rw [e0 6 j (by omega) (by omega) (by unfold shS; omega) (by unfold reS; omega), e0 179 j (by omega) (by omega) (by unfold shS; omega) (by unfold reS; omega)]; exact d2
      · rw [e0 8 j (by omega) (by omega) (by unfold shS; omega) (by unfold reS; omega), e0 182 j (by omega) (by omega) (by unfold shS; omega) (by unfold reS; omega)]; exact d3
      · obtain ⟨z, z1, z2, z3⟩ := d4
        exact ⟨z, z1, z2, (e0 6 j (by omega) (by omega) (by unfold shS; omega) (by unfold reS; omega)).trans z3⟩
      · obtain ⟨z, z1, z2⟩ := d5
        exact ⟨z, z1, (e0 5 j (by omega) (by omega) (by unfold shS; omega) (by unfold reS; omega)).trans z2⟩
      · by_cases eq : q = r
        · subst eq
          rw [er (10 + j) q (by omega) (by omega), q2 j hj, z2 j hj]
          obtain ⟨k, k9, ke⟩ := eV_n (nI kn) n f step j
          exact ⟨rfl, k, k9, ke⟩
        · obtain ⟨f1, z, y1, y2⟩ := d6 q hq
          have ex : Mr (10 + j) q = M (10 + j) q := e0 (10 + j) q (by omega) (by omega) (by unfold shS; omega) (by unfold reS; omega)
          refine ⟨?_, z, y1, ex.trans y2⟩
          rw [ex, z3 j q hj hq eq, up_row _ _ _ (by decide), hge 181 _ (by decide)]; exact f1
    · exact q4.fr (er 23 1 (by omega) (by omega)) (fun k => er 24 k (by omega) (by omega))
    · exact b2.fr (e0 174 22 (by omega) (by omega) (by unfold shS; omega) (by unfold reS; omega)) (fun k => e0 186 k (by omega) (by omega) (by unfold shS; omega) (by unfold reS; omega))
    · intro j hj q hq
      rw [er (17 + j) q (by omega) (by omega), q3 j hj q hq]
      unfold stV
      rw [er 8 j (by omega) (by omega), er (10 + j) q (by omega) (by omega), er 6 j (by omega) (by omega)]
    · exact row_ne hR (fun i k q => e0 i k (by omega) (by omega) (by unfold shS; omega) (by unfold reS; omega))
  unfold Both f_X10_sheet f_X10_sheet_0 f_X10_sheet_40 f_X10_sheet_50
  rw [if_neg h1, if_neg h2, if_neg h3, hasR_t a1 a5 hr, bd_e, if_neg (by decide)]
  by_cases hk : nI kn = 3
  · simp only [if_pos hk]
    exact main (fun z => absurd hk z) 0 (by rw [if_pos hk])
  · simp only [if_neg hk]
    by_cases hn0 : n < 0
    · rw [if_pos hn0, wp_s]
      unfold f_X11_sheet f_X11_sheet_0
      rw [wp_ml, in_t _ h1 h2, bd_e, if_neg (by decide), if_neg h3, isR_t a1 m14 hr, bd_e, if_neg (by decide), if_pos (hk3.mpr hk), if_pos hn0, wp_s]
      exact ⟨rfl, done⟩
    · rw [if_neg hn0]
      exact main (fun _ => hn0) n (by rw [if_neg hk])
