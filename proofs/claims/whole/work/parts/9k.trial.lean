/-! the class: minutes of a day go by -/
def sdB (c : Nat) (tg : Nat → Nat) (p : Nat → Bool) (t : Nat) : Bool := if t = 0 then decide (bI p = 0) else (fstF (fun g => p g && tg g + 1 == t) c 0).isSome
def Sh (c : Nat) (tg : Nat → Nat) (h : Nat) (hp hm ht : Nat → Nat) (n : Nat) (τ : Sm) : Bool := (fstF (fun i => hm i == n && !(sdB c tg (fun g => τ.1 g == hp i + 1) (ht i))) h 0).isNone
def HrC (C : Cf) (M : Mem) (tg : Nat → Nat) (h : Nat) (hp hm ht : Nat → Nat) : Prop := h ≤ 12 ∧ M 120 3 = nI h ∧ (∀ i, i < h → hp i < C.1 ∧ 1 ≤ hm i ∧ hm i ≤ 300 ∧ ht i ≤ 5 ∧ M 121 i = nI (hp i) ∧ M 122 i = nI (hm i) ∧ M 123 i = pI (ht i)) ∧ ∀ g, g < C.2.1 → tg g < 5 ∧ M 5 g = nI (tg g)
theorem HrC.eq {C : Cf} {M M' : Mem} {tg : Nat → Nat} {h : Nat} {hp hm ht : Nat → Nat} (hc : C.2.1 ≤ 6) (e : ∀ i k, i = 5 ∨ (120 ≤ i ∧ i ≤ 123) → M' i k = M i k) (hh : HrC C M tg h hp hm ht) : HrC C M' tg h hp hm ht := by
  obtain ⟨a, b, c, d⟩ := hh
  refine ⟨a, (e 120 3 (by omega)).trans b, fun i hi => ?_, fun g hg => ⟨(d g hg).1, (e 5 g (by omega)).trans (d g hg).2⟩⟩
  obtain ⟨c1, c2, c3, c4, c5, c6, c7⟩ := c i hi
  exact ⟨c1, c2, c3, c4, (e 121 i (by omega)).trans c5, (e 122 i (by omega)).trans c6, (e 123 i (by omega)).trans c7⟩
theorem next_loop {C : Cf} {M : Mem} {tg : Nat → Nat} {h : Nat} {hp hm ht : Nat → Nat} (hH : HrC C M tg h hp hm ht) {k : Nat} (hk : k ≤ 1000) : ∀ (m i n v : Nat), i + m = h → m < n → k < v → v ≤ k + 400 → ∃ v', f_X0_nextBehind_8 n (nI k) (nI v) (nI i) M = some (nI v', M) ∧ k < v' ∧ v' ≤ v ∧ ∀ j, i ≤ j → j < h → k < hm j → v' ≤ hm j
  | 0, i, n + 1, v, he, _, hv, hv2 => by
    have := hH.1
    refine ⟨v, ?_, hv, Nat.le_refl _, fun j h1 h2 => by omega⟩
    unfold f_X0_nextBehind_8
    rw [hH.2.1, if_neg (nI_nlt (by omega) (by omega))]
  | m + 1, i, n + 1, v, he, hn, hv, hv2 => by
    have h12 := hH.1
    obtain ⟨c1, c2, c3, c4, c5, c6, c7⟩ := hH.2.2.1 i (by omega)
    unfold f_X0_nextBehind_8
    rw [hH.2.1, if_pos (nI_lt (by omega) (by omega)), gd_t (nI_inb (show i < 12 by omega) (by decide)), nI_clamp (by omega), c6]
    by_cases q : k < hm i
    · rw [if_pos (nI_lt q (by omega)), gd_t (nI_inc (show i < 12 by omega) (by decide))]
      have e : (if nI (hm i) < nI v then nI (hm i) else nI v) = nI (if hm i < v then hm i else v) := by
        by_cases z : hm i < v
        · rw [if_pos (nI_lt z (by omega)), if_pos z]
        · rw [if_neg (nI_nlt (by omega) (by omega)), if_neg z]
      have hv1 : k < (if hm i < v then hm i else v) := by split <;> omega
      have hv3 : (if hm i < v then hm i else v) ≤ k + 400 := by split <;> omega
      obtain ⟨v', r1, r2, r3, r4⟩ := next_loop hH hk m (i + 1) n (if hm i < v then hm i else v) (by omega) (by omega) hv1 hv3
      refine ⟨v', ?_, r2, by split at r3 <;> omega, fun j h1 h2 h3 => ?_⟩
      · rw [e]
        show f_X0_nextBehind_8 n (nI k) (nI _) (nI i + 1) M = _
        rw [nI_1]; exact r1
      · by_cases z : j = i
        · subst z; split at r3 <;> omega
        · exact r4 j (by omega) h2 h3
    · rw [if_neg (nI_nlt (by omega) (by omega))]
      obtain ⟨v', r1, r2, r3, r4⟩ := next_loop hH hk m (i + 1) n v (by omega) (by omega) hv hv2
      refine ⟨v', ?_, r2, r3, fun j h1 h2 h3 => ?_⟩
      · show f_X0_nextBehind_8 n (nI k) (nI v) (nI i + 1) M = _
        rw [nI_1]; exact r1
      · by_cases z : j = i
        · subst z; exact absurd h3 q
        · exact r4 j (by omega) h2 h3
theorem next_spec {C : Cf} {M : Mem} {tg : Nat → Nat} {h : Nat} {hp hm ht : Nat → Nat} (hH : HrC C M tg h hp hm ht) {k : Nat} (hk : k ≤ 1000) : ∃ v, f_X0_nextBehind (nI k) M = some (nI v, M) ∧ k < v ∧ v ≤ k + 400 ∧ ∀ j, j < h → k < hm j → v ≤ hm j := by
  have h12 := hH.1
  obtain ⟨v, r1, r2, r3, r4⟩ := next_loop hH hk h 0 FU (k + 400) (by omega) (by show h < 2000; omega) (by omega) (by omega)
  refine ⟨v, ?_, r2, r3, fun j => r4 j (Nat.zero_le _)⟩
  unfold f_X0_nextBehind f_X0_nextBehind_0
  show f_X0_nextBehind_8 FU (nI k) (nI k + 400) 0 M = _
  rw [show nI k + 400 = nI (k + 400) from nI_add k 400]
  exact r1
theorem sounds_loop {C : Cf} {M : Mem} {tg : Nat → Nat} (hC : COk C) (hM : CfC M C) (hT : ∀ g, g < C.2.1 → tg g < 5 ∧ M 5 g = nI (tg g)) {p : Nat → Bool} {t : Nat} (ht : t ≤ 5) : ∀ (m g n : Nat), g + m = C.2.1 → m < n → f_X0_sounds_17 n (bI p) (pI t) (nI g) M = some (b2i ((fstF (fun g => p g && tg g + 1 == t) m g).isSome = true), M)
  | 0, g, n + 1, he, _ => by
    have := hC.2.1
    unfold f_X0_sounds_17
    rw [hM.2.1, if_neg (nI_nlt (by omega) (by omega))]
    rfl
  | m + 1, g, n + 1, he, hn => by
    have c2 := hC.2.1
    have ih := sounds_loop hC hM hT (p := p) ht m (g + 1) n (by omega) (by omega)
    have hb : bit (bI p) (nI g) ↔ p g = true := by rw [bit_bI p (by omega)]; exact ⟨fun h => h.2, fun h => ⟨by omega, h⟩⟩
    obtain ⟨t1, t2⟩ := hT g (by omega)
    unfold f_X0_sounds_17 fstF
    rw [hM.2.1, if_pos (nI_lt (by omega) (by omega)), has_spec, bd_e]
    by_cases hp : p g = true
    · rw [b2i_t (hb.mpr hp), if_neg (by decide), gd_t (nI_inb (show g < 6 by omega) (by decide)), nI_clamp (by omega), t2, hp, Bool.true_and]
      by_cases z : tg g + 1 = t
      · rw [if_pos ((pI_nI (by omega) (by omega)).mpr z.symm).symm, if_pos (beq_iff_eq.mpr z)]
        rfl
      · rw [if_neg (fun q => z ((pI_nI (by omega) (by omega)).mp q.symm).symm), if_neg (fun q => z (beq_iff_eq.mp q))]
        show f_X0_sounds_17 n (bI p) (pI t) (nI g + 1) M = _
        rw [nI_1]; exact ih
    · rw [b2i_f (fun z => hp (hb.mp z)), if_pos rfl, if_neg (by rw [Bool.eq_false_iff.mpr hp]; exact Bool.false_ne_true)]
      show f_X0_sounds_17 n (bI p) (pI t) (nI g + 1) M = _
      rw [nI_1]; exact ih
theorem sounds_spec {C : Cf} {M : Mem} {tg : Nat → Nat} (hC : COk C) (hM : CfC M C) (hT : ∀ g, g < C.2.1 → tg g < 5 ∧ M 5 g = nI (tg g)) {p : Nat → Bool} {t : Nat} (ht : t ≤ 5) : f_X0_sounds (bI p) (pI t) M = some (b2i (sdB C.2.1 tg p t = true), M) := by
  have c2 := hC.2.1
  unfold f_X0_sounds f_X0_sounds_0 sdB
  by_cases z : t = 0
  · rw [if_pos ((pI_m1 (by omega)).mpr z), if_pos z]
    by_cases q : bI p = 0
    · rw [if_pos q, b2i_t (by simpa using q)]
      rfl
    · rw [if_neg q, b2i_f (by simpa using q)]
      rfl
  · rw [if_neg (fun q => z ((pI_m1 (by omega)).mp q)), if_neg z]
    exact sounds_loop hC hM hT ht C.2.1 0 FU (by omega) (by show C.2.1 < 2000; omega)
theorem isSo_loop {C : Cf} {M : Mem} {s : Nat} {τ : Sm} {tg : Nat → Nat} {h : Nat} {hp hm ht : Nat → Nat} (hC : COk C) (hM : CfC M C) (hS : IsC C M s τ) (hO : Ok C τ) (hH : HrC C M tg h hp hm ht) {k : Nat} (hk : k ≤ 1000) : ∀ (m i n : Nat), i + m = h → m < n → f_X0_isSo_3 s n (nI k) (nI i) M = some (b2i ((fstF (fun i => hm i == k && !(sdB C.2.1 tg (fun g => τ.1 g == hp i + 1) (ht i))) m i).isNone = true), M)
  | 0, i, n + 1, he, _ => by
    have := hH.1
    unfold f_X0_isSo_3
    rw [hH.2.1, if_neg (nI_nlt (by omega) (by omega))]
    rfl
  | m + 1, i, n + 1, he, hn => by
    have h12 := hH.1
    have c1 := hC.1
    obtain ⟨d1, d2, d3, d4, d5, d6, d7⟩ := hH.2.2.1 i (by omega)
    have ih := isSo_loop hC hM hS hO hH hk m (i + 1) n (by omega) (by omega)
    unfold f_X0_isSo_3 fstF
    rw [hH.2.1, if_pos (nI_lt (by omega) (by omega)), gd_t (nI_inb (show i < 12 by omega) (by decide)), nI_clamp (by omega), d6]
    by_cases q : hm i = k
    · rw [if_pos ((nI_eq (by omega) (by omega)).mpr q), gd_t (nI_inc (show i < 12 by omega) (by decide)), d5, show nI (hp i) = pI (hp i + 1) from (pI_s _).symm, ci_in hC hS hO.toM (by omega), bd_e, gd_t (nI_inc (show i < 12 by omega) (by decide)), d7, sounds_spec hC hM hH.2.2.2 d4, bd_e, beq_iff_eq.mpr q, Bool.true_and]
      by_cases z : sdB C.2.1 tg (fun g => τ.1 g == hp i + 1) (ht i) = true
      · rw [b2i_t z, if_neg (by decide), if_neg (by rw [z]; decide)]
        show f_X0_isSo_3 s n (nI k) (nI i + 1) M = _
        rw [nI_1]; exact ih
      · rw [b2i_f z, if_pos rfl, if_pos (by rw [Bool.eq_false_iff.mpr z]; rfl)]
        rfl
    · rw [if_neg (fun z => q ((nI_eq (by omega) (by omega)).mp z)), if_neg (by rw [beq_eq_false_iff_ne.mpr q]; exact Bool.false_ne_true)]
      show f_X0_isSo_3 s n (nI k) (nI i + 1) M = _
      rw [nI_1]; exact ih
theorem isSo_spec {C : Cf} {M : Mem} {s : Nat} {τ : Sm} {tg : Nat → Nat} {h : Nat} {hp hm ht : Nat → Nat} (hC : COk C) (hM : CfC M C) (hS : IsC C M s τ) (hO : Ok C τ) (hH : HrC C M tg h hp hm ht) {k : Nat} (hk : k ≤ 1000) : f_X0_isSo s (nI k) M = some (b2i (Sh C.2.1 tg h hp hm ht k τ = true), M) := by
  have h12 := hH.1
  exact isSo_loop hC hM hS hO hH hk h 0 FU (by omega) (by show h < 2000; omega)
/-- how the trial stands: from when on, whether it listens, and what is asked of each minute -/
def HS (C : Cf) (t0 : Nat) (lis : Bool) (S : Nat → Sm → Bool) (M : Mem) : Prop := M 128 5 = nI t0 ∧ M 128 3 = b2i (lis = true) ∧ (lis = false → ∀ n τ, S n τ = true) ∧ (lis = true → ∃ tg h hp hm ht, HrC C M tg h hp hm ht ∧ S = Sh C.2.1 tg h hp hm ht)
theorem HS.eq {C : Cf} {t0 : Nat} {lis : Bool} {S : Nat → Sm → Bool} {M M' : Mem} (hc : C.2.1 ≤ 6) (e : ∀ i k, i = 5 ∨ (120 ≤ i ∧ i ≤ 123) ∨ (i = 128 ∧ k ≠ 4) → M' i k = M i k) (h : HS C t0 lis S M) : HS C t0 lis S M' := by
  obtain ⟨a, b, c, d⟩ := h
  refine ⟨(e 128 5 (by omega)).trans a, (e 128 3 (by omega)).trans b, c, fun hl => ?_⟩
  obtain ⟨tg, h, hp, hm, ht, h1, h2⟩ := d hl
  exact ⟨tg, h, hp, hm, ht, h1.eq hc (fun i k q => e i k (by omega)), h2⟩
theorem HS.fr {C : Cf} {t0 : Nat} {lis : Bool} {S : Nat → Sm → Bool} {M M' : Mem} {s : Nat} (hc : C.2.1 ≤ 6) (hs : 130 ≤ s) (hF : Fr (stS s) M M') (h : HS C t0 lis S M) : HS C t0 lis S M' := h.eq hc (fun i k q => hF i k (by unfold stS; omega))
theorem quiet_at {C : Cf} {τ : Sm} {q i : Nat} (h : q = 0 ∨ first C τ = none) (h2 : ∀ g, 0 < τ.2.1 g → q < τ.2.1 g) (hi : i ≤ q) : (mn C i τ).1 = τ.1 := by
  by_cases z : i = 0
  · subst z; rfl
  · rcases h with h | h
    · omega
    · rw [mn_quiet h i (fun g hg => by have := h2 g hg; omega)]; rfl
theorem goBy_spec {C : Cf} {M : Mem} {s t0 last : Nat} {lis : Bool} {S : Nat → Sm → Bool} {τ : Sm} (hs : 130 ≤ s) (hC : COk C) (hM : CfC M C) (hS : IsC C M s τ) (hO : Ok C τ) (hH : HS C t0 lis S M) (h0 : t0 ≤ τ.2.2.2.2) (hl : τ.2.2.2.2 < last) (hl4 : last ≤ t0 + 400) (hB : t0 < 2 ^ 29) : wp (f_X9_goBy s (nI last) M) (fun r M' => ∃ q, τ.2.2.2.2 + q + 1 ≤ last ∧ (q = 0 ∨ first C τ = none) ∧ (∀ g, 0 < τ.2.1 g → q < τ.2.1 g) ∧ IsC C M' s (mn C (q + 1) τ) ∧ Fr (stS s) M M' ∧ (∀ i, 1 ≤ i → i ≤ q → S (τ.2.2.2.2 + i - t0) (mn C i τ) = true) ∧ r = b2i (S (τ.2.2.2.2 + (q + 1) - t0) (mn C (q + 1) τ) = true)) := by
  have c2 := hC.2.1
  have e0 : M s 0 = nI τ.2.2.2.2 := hS.2.2.2.2.1
  unfold f_X9_goBy f_X9_goBy_0
  rw [hH.2.1]
  cases lis with
  | false =>
    rw [if_pos (by decide), wp_bd, e0, pk_sub (by omega)]
    refine wp_mono (advance_spec (by omega) hC hM hS hO (m := last - τ.2.2.2.2) (by omega) (by omega)) (fun _ M1 h => ?_)
    obtain ⟨q, q1, q2, q3, q4, q5⟩ := h
    rw [wp_s]
    have hT := hH.2.2.1 rfl
    exact ⟨q, by omega, q2, q3, q4, q5, fun i _ _ => hT _ _, by rw [b2i_t (hT _ _)]⟩
  | true =>
    obtain ⟨tg, h, hp, hm, ht, h1, rfl⟩ := hH.2.2.2 rfl
    rw [if_neg (by decide), e0, hH.1, pk_sub h0]
    obtain ⟨v, v1, v2, v3, v4⟩ := next_spec h1 (k := τ.2.2.2.2 - t0) (by omega)
    rw [v1, bd_e, wp_vl, e0, nI_add]
    have e : (if nI (t0 + v) < nI last then nI (t0 + v) else nI last) = nI (if t0 + v < last then t0 + v else last) := by
      by_cases z : t0 + v < last
      · rw [if_pos (nI_lt z (by omega)), if_pos z]
      · rw [if_neg (nI_nlt (by omega) (by omega)), if_neg z]
    have hl1 : τ.2.2.2.2 < (if t0 + v < last then t0 + v else last) := by split <;> omega
    have hl2 : (if t0 + v < last then t0 + v else last) ≤ t0 + v := by split <;> omega
    have hl3 : (if t0 + v < last then t0 + v else last) ≤ last := by split <;> omega
    generalize (if t0 + v < last then t0 + v else last) = z at e hl1 hl2 hl3
    rw [e, pk_sub (by omega), wp_bd]
    refine wp_mono (advance_spec (by omega) hC hM hS hO (m := z - τ.2.2.2.2) (by omega) (by omega)) (fun _ M1 hh => ?_)
    obtain ⟨q, q1, q2, q3, q4, q5⟩ := hh
    have hM1 : CfC M1 C := CfC.fr (by omega) c2 q5 hM
    have h11 := h1.eq c2 (M' := M1) (fun i k z => q5 i k (by unfold stS; omega))
    have e5 : M1 128 5 = nI t0 := (q5 128 5 (by unfold stS; omega)).trans hH.1
    have en : M1 s 0 = nI (τ.2.2.2.2 + (q + 1)) := by rw [q4.2.2.2.2.1, mn_now]
    rw [en, e5, pk_sub (by omega), isSo_spec hC hM1 q4 (ok_mn hC _ hO) h11 (by omega), bd_e, wp_gd]
    refine ⟨b2i_01 _, ?_⟩
    rw [wp_s]
    refine ⟨q, by omega, q2, q3, q4, q5, fun i i1 i2 => ?_, rfl⟩
    show (fstF _ h 0).isNone = true
    rw [fstF_none.mpr (fun j _ hj => ?_)]
    · rfl
    · have hne : hm j ≠ τ.2.2.2.2 + i - t0 := by
        intro ez
        have := v4 j (by omega) (by omega)
        omega
      show (hm j == τ.2.2.2.2 + i - t0 && _) = false
      rw [beq_eq_false_iff_ne.mpr hne, Bool.false_and]
theorem bar_q {C : Cf} {τ : Sm} {g i : Nat} (h0 : τ.1 g = 0) (hb : ¬ bar C τ g = 0) (e : (mn C i τ).1 = τ.1) (ht : τ.2.2.2.2 < C.2.2.2.2.1 g → τ.2.2.2.2 + i < C.2.2.2.2.1 g) : ¬ bar C (mn C i τ) g = 0 := by
  unfold bar at hb ⊢
  rw [e, mn_now, if_pos h0]
  rw [if_pos h0] at hb
  by_cases z : τ.2.2.2.2 < C.2.2.2.2.1 g
  · rw [if_pos (ht z)]; decide
  · rw [if_neg (by omega)]
    rw [if_neg z] at hb
    exact hb
/-- one is sent off -/
def SoP (C : Cf) (s t0 last : Nat) (lis : Bool) (S : Nat → Sm → Bool) (τ : Sm) (g : Nat) (M0 : Mem) (r : Int32) (M' : Mem) : Prop := Fr (stS s) M0 M' ∧ ((∃ j, τ.2.2.2.2 + j < last ∧ (∀ i, i < j → ¬ bar C (mn C i τ) g = 0) ∧ bar C (mn C j τ) g = 0 ∧ (∀ i, 1 ≤ i → i ≤ j → S (τ.2.2.2.2 + i - t0) (mn C i τ) = true) ∧ r = 1 ∧ IsC C M' s (off C (mn C j τ) g)) ∨ (∃ j, last ≤ τ.2.2.2.2 + j ∧ (0 < j → τ.2.2.2.2 + j = last) ∧ (∀ i, i < j → ¬ bar C (mn C i τ) g = 0) ∧ (∀ i, 1 ≤ i → i ≤ j → S (τ.2.2.2.2 + i - t0) (mn C i τ) = true) ∧ r = b2i (lis = true) ∧ IsC C M' s (mn C j τ)) ∨ (∃ j, 1 ≤ j ∧ τ.2.2.2.2 + j ≤ last ∧ (∀ i, i < j → ¬ bar C (mn C i τ) g = 0) ∧ S (τ.2.2.2.2 + j - t0) (mn C j τ) = false ∧ r = 0) ∨ ∃ j, lis = false ∧ τ.2.2.2.2 + j < last ∧ last < τ.2.2.2.2 + j + whl C g ∧ (∀ i, i < j → ¬ bar C (mn C i τ) g = 0) ∧ r = 0)
theorem sendOff_loop {C : Cf} {M0 : Mem} {s t0 last : Nat} {lis : Bool} {S : Nat → Sm → Bool} {τ : Sm} {g : Nat} (hs : 130 ≤ s) (hC : COk C) (hO : Ok C τ) (h0 : t0 ≤ τ.2.2.2.2) (hl4 : last ≤ t0 + 400) (hB : t0 < 2 ^ 29) (hg : g < C.2.1) (hg0 : τ.1 g = 0) (hT4 : τ.2.2.2.2 ≤ t0 + 400) : ∀ (k n a t : Nat) (M : Mem), last ≤ τ.2.2.2.2 + a + k → k < n → t ≤ a → (0 < a → τ.2.2.2.2 + a ≤ last) → CfC M C → HS C t0 lis S M → IsC C M s (mn C a τ) → (∀ i, i < a → ¬ bar C (mn C i τ) g = 0) → (∀ i, 1 ≤ i → i ≤ a → S (τ.2.2.2.2 + i - t0) (mn C i τ) = true) → Fr (stS s) M0 M → wp (f_X9_sendOff_13 s n (nI g) (nI last) (nI (whl C g)) (nI t) M) (SoP C s t0 last lis S τ g M0) := by
  intro k
  have c2 := hC.2.1
  induction k using Nat.strongRecOn with
  | ind k ih =>
  intro n a t M hk hn hta hal hM hH hI hbr hSo hF
  obtain ⟨n, rfl⟩ : ∃ n', n = n' + 1 := ⟨n - 1, by omega⟩
  have hOa := ok_mn hC a hO
  have en : M s 0 = nI (τ.2.2.2.2 + a) := by rw [hI.2.2.2.2.1, mn_now]
  have ha4 : a ≤ 400 := by
    by_cases z : 0 < a
    · have := hal z; omega
    · omega
  have h0a : (mn C a τ).1 g = 0 := mn_out a hg0
  have hnow : (mn C a τ).2.2.2.2 = τ.2.2.2.2 + a := mn_now C a τ
  have hw := whl_le hC g
  have body : τ.2.2.2.2 + a < last → wp (f_X9_sendOff_49 (f_X9_sendOff_13 s n) s (nI g) (nI last) (nI (whl C g)) (nI t) M) (SoP C s t0 last lis S τ g M0) := by
    intro hlt
    unfold f_X9_sendOff_49
    rw [barTo_spec hC hM hI hOa.toM hg (by omega), bd_e]
    by_cases hb : bar C (mn C a τ) g = 0
    · rw [if_pos hb, wp_bd]
      refine wp_mono (setOff_spec (by omega) hC hM hI hOa.toM hg (by omega)) (fun _ M1 h => ?_)
      rw [wp_s]
      exact ⟨hF.tr h.2.2.2, Or.inl ⟨a, hlt, hbr, hb, hSo, rfl, h.1⟩⟩
    · rw [if_neg hb, gd_t (nI_inb (show g < 6 by omega) (by decide)), nI_clamp (by omega), wp_vl, (hM.2.2.2 g hg).2.1, en]
      have hcm := hC.2.2.2.2 g
      have goB : ∀ l', τ.2.2.2.2 + a < l' → l' ≤ last → (τ.2.2.2.2 + a < C.2.2.2.2.1 g → l' ≤ C.2.2.2.2.1 g) → wp (f_X9_sendOff_104 (f_X9_sendOff_13 s n) s (nI g) (nI last) (nI (whl C g)) (nI t) (nI l') M) (SoP C s t0 last lis S τ g M0) := by
        intro l' h1 h2 h3
        unfold f_X9_sendOff_104
        rw [wp_bd]
        refine wp_mono (goBy_spec hs hC hM hI hOa hH (by omega) (by omega) (by omega) hB) (fun r M1 h => ?_)
        obtain ⟨q, q1, q2, q3, q4, q5, q6, q7⟩ := h
        rw [hnow] at q1 q6 q7
        rw [← mn_add] at q4 q7
        have hbr' : ∀ i, i < a + (q + 1) → ¬ bar C (mn C i τ) g = 0 := by
          intro i hi
          by_cases z : i < a
          · exact hbr i z
          · have := bar_q (i := i - a) h0a hb (quiet_at q2 q3 (by omega)) (fun z2 => by rw [hnow] at z2 ⊢; have := h3 z2; omega)
            rw [← mn_add, show a + (i - a) = i by omega] at this
            exact this
        have hSq : ∀ i, 1 ≤ i → i ≤ a + q → S (τ.2.2.2.2 + i - t0) (mn C i τ) = true := by
          intro i i1 i2
          by_cases z : i ≤ a
          · exact hSo i i1 z
          · have := q6 (i - a) (by omega) (by omega)
            rw [← mn_add, show a + (i - a) = i by omega, show τ.2.2.2.2 + a + (i - a) - t0 = τ.2.2.2.2 + i - t0 by omega] at this
            exact this
        rw [show τ.2.2.2.2 + a + (q + 1) = τ.2.2.2.2 + (a + (q + 1)) by omega] at q7
        by_cases z : S (τ.2.2.2.2 + (a + (q + 1)) - t0) (mn C (a + (q + 1)) τ) = true
        · rw [q7, b2i_t z, if_neg (by decide), wp_vl, nI_1]
          refine ih (last - (τ.2.2.2.2 + (a + (q + 1)))) (by omega) n (a + (q + 1)) (t + 1) M1 (by omega) (by omega) (by omega) (fun _ => by omega) (CfC.fr (by omega) c2 q5 hM) (hH.fr c2 hs q5) q4 hbr' (fun i i1 i2 => ?_) (hF.tr q5)
          by_cases w : i = a + (q + 1)
          · subst w; exact z
          · exact hSq i i1 (by omega)
        · rw [q7, b2i_f z, if_pos rfl, wp_s]
          exact ⟨hF.tr q5, Or.inr (Or.inr (Or.inl ⟨a + (q + 1), by omega, by omega, hbr', Bool.eq_false_iff.mpr z, rfl⟩))⟩
      by_cases z : τ.2.2.2.2 + a < C.2.2.2.2.1 g
      · rw [if_pos (nI_lt z (by omega))]
        by_cases w : last < C.2.2.2.2.1 g
        · rw [if_pos (nI_lt w (by omega))]
          exact goB last hlt (Nat.le_refl _) (fun _ => by omega)
        · rw [if_neg (nI_nlt (by omega) (by omega))]
          exact goB _ z (by omega) (fun _ => Nat.le_refl _)
      · rw [if_neg (nI_nlt (by omega) (by omega))]
        exact goB last hlt (Nat.le_refl _) (fun w => absurd w z)
  unfold f_X9_sendOff_13
  rw [if_neg (show ¬ 400 < nI t from nI_nlt (a := 400) (by omega) (by omega)), en]
  by_cases hlt : τ.2.2.2.2 + a < last
  · rw [if_pos (nI_lt hlt (by omega)), hH.2.1]
    cases lis with
    | false =>
      rw [if_pos (by decide), nI_add]
      by_cases z : last < τ.2.2.2.2 + a + whl C g
      · rw [if_pos (nI_lt z (by omega)), wp_s]
        exact ⟨hF, Or.inr (Or.inr (Or.inr ⟨a, rfl, hlt, z, hbr, rfl⟩))⟩
      · rw [if_neg (nI_nlt (by omega) (by omega))]
        exact body hlt
    | true =>
      rw [if_neg (by decide)]
      exact body hlt
  · rw [if_neg (nI_nlt (by omega) (by omega))]
    unfold f_X9_sendOff_118
    rw [hH.2.1, wp_gd]
    refine ⟨b2i_01 _, ?_⟩
    rw [wp_s]
    exact ⟨hF, Or.inr (Or.inl ⟨a, by omega, fun z => by have := hal z; omega, hbr, hSo, rfl, hI⟩)⟩
theorem sendOff_spec {C : Cf} {M : Mem} {s t0 last : Nat} {lis : Bool} {S : Nat → Sm → Bool} {τ : Sm} {g : Nat} (hs : 130 ≤ s) (hC : COk C) (hM : CfC M C) (hS : IsC C M s τ) (hO : Ok C τ) (hH : HS C t0 lis S M) (h0 : t0 ≤ τ.2.2.2.2) (hT4 : τ.2.2.2.2 ≤ t0 + 400) (hl4 : last ≤ t0 + 400) (hB : t0 < 2 ^ 29) (hg : g < C.2.1) (hg0 : τ.1 g = 0) : wp (f_X9_sendOff s (nI g) (nI last) M) (SoP C s t0 last lis S τ g M) := by
  unfold f_X9_sendOff f_X9_sendOff_0
  rw [c_whole hC hM hg, bd_e]
  exact sendOff_loop hs hC hO h0 hl4 hB hg hg0 hT4 400 FU 0 0 M (by omega) (by decide) (Nat.le_refl _) (fun z => by omega) hM hH hS (fun i hi => by omega) (fun i i1 i2 => by omega) Fr.rf
