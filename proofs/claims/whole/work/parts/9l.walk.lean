/-! the class: a day by an order -/
def lb (l : List Nat) : Nat → Bool := fun g => decide (g ∈ l)
theorem bI_inj {p q : Nat → Bool} : bI p = bI q ↔ ∀ g, g < 6 → p g = q g := by
  constructor
  · intro e g hg
    have h1 := bit_bI p (r := g) (by omega)
    have h2 := bit_bI q (r := g) (by omega)
    rw [e] at h1
    rw [Bool.eq_iff_iff]
    exact ⟨fun h => (h2.mp (h1.mpr ⟨hg, h⟩)).2, fun h => (h1.mp (h2.mpr ⟨hg, h⟩)).2⟩
  · exact bI_ext
theorem thr_bits {τ : Sm} {l : List Nat} (hl : ∀ g, g ∈ l → g < 6) : (bI (fun g => τ.1 g == 10) &&& bI (lb l)) = bI (lb l) ↔ thr l τ = true := by
  rw [bI_and, bI_inj, thr_t]
  constructor
  · intro h g hg
    have := h g (hl g hg)
    unfold lb at this
    rw [decide_eq_true hg, Bool.and_true] at this
    exact beq_iff_eq.mp this
  · intro h g _
    unfold lb
    by_cases z : g ∈ l
    · rw [decide_eq_true z, Bool.and_true]; exact beq_iff_eq.mpr (h g z)
    · rw [decide_eq_false z, Bool.and_false]
def OrC (q : Nat) (M : Mem) (l : List Nat) : Prop := l.length ≤ 6 ∧ M q 1 = nI l.length ∧ ∀ k g, l[k]? = some g → M (q + 1) k = nI g
theorem OrC.eq {q : Nat} {M M' : Mem} {l : List Nat} (h1 : M' q 1 = M q 1) (h2 : ∀ k, M' (q + 1) k = M (q + 1) k) (h : OrC q M l) : OrC q M' l := ⟨h.1, h1.trans h.2.1, fun k g e => (h2 k).trans (h.2.2 k g e)⟩
theorem get_some {l : List Nat} {k : Nat} (h : k < l.length) : ∃ g, l[k]? = some g ∧ g ∈ l ∧ l.take (k + 1) = l.take k ++ [g] ∧ l = l.take k ++ g :: l.drop (k + 1) := by
  refine ⟨l[k], List.getElem?_eq_getElem h, List.getElem_mem h, ?_, ?_⟩
  · rw [List.take_succ, List.getElem?_eq_getElem h]; rfl
  · have := List.take_append_drop k l
    rw [List.drop_eq_getElem_cons h] at this
    exact this.symm
theorem bits_loop {q : Nat} {M : Mem} {l : List Nat} (h : OrC q M l) (hl : ∀ g, g ∈ l → g < 6) : ∀ (m k n : Nat), k + m = l.length → m < n → f_X5_bits_4 q n (bI (lb (l.take k))) (nI k) M = some (bI (lb l), M)
  | 0, k, n + 1, he, _ => by
    have := h.1
    unfold f_X5_bits_4
    rw [h.2.1, if_neg (nI_nlt (by omega) (by omega)), List.take_of_length_le (by omega)]
  | m + 1, k, n + 1, he, hn => by
    have := h.1
    obtain ⟨g, g1, g2, g3, _⟩ := get_some (l := l) (k := k) (by omega)
    have hg := hl g g2
    have ih := bits_loop h hl m (k + 1) n (by omega) (by omega)
    unfold f_X5_bits_4
    rw [h.2.1, if_pos (nI_lt (by omega) (by omega)), gd_t (nI_inb (show k < 6 by omega) (by decide)), nI_clamp (by omega), h.2.2 k g g1]
    show f_X5_bits_4 q n (obit g (bI (lb (l.take k)))) (nI k + 1) M = _
    rw [bI_set hg, nI_1]
    rw [show bI (fun h => if h = g then true else lb (l.take k) h) = bI (lb (l.take (k + 1))) from bI_ext (fun j _ => by
      unfold lb
      rw [g3]
      by_cases z : j = g
      · rw [if_pos z, decide_eq_true (by rw [z]; simp)]
      · rw [if_neg z]
        rw [decide_eq_decide, mem_app1]
        exact ⟨Or.inl, fun w => w.elim id (fun w => absurd w z)⟩)]
    exact ih
theorem bits_spec {q : Nat} {M : Mem} {l : List Nat} (h : OrC q M l) (hl : ∀ g, g ∈ l → g < 6) : f_X5_bits q M = some (bI (lb l), M) := by
  have := h.1
  have e := bits_loop h hl l.length 0 FU (by omega) (by show l.length < 2000; omega)
  rw [List.take_zero, show bI (lb []) = 0 from by decide] at e
  exact e
def LtP (C : Cf) (t0 last : Nat) (lis : Bool) (S : Nat → Sm → Bool) (τ : Sm) (l : List Nat) (M0 : Mem) (r : Int32) (M' : Mem) : Prop := Fr (stS 165) M0 M' ∧ ((lis = false ∧ ((∃ j, τ.2.2.2.2 + j ≤ last ∧ thr l (mn C j τ) = true ∧ (∀ i, i < j → thr l (mn C i τ) = false) ∧ r = 1 ∧ IsC C M' 165 (mn C j τ)) ∨ ((∀ j, τ.2.2.2.2 + j ≤ last → thr l (mn C j τ) = false) ∧ r = 0))) ∨ (lis = true ∧ ((∃ j, 1 ≤ j ∧ τ.2.2.2.2 + j ≤ last ∧ S (τ.2.2.2.2 + j - t0) (mn C j τ) = false ∧ r = 0) ∨ ((∀ j, 1 ≤ j → τ.2.2.2.2 + j ≤ last → S (τ.2.2.2.2 + j - t0) (mn C j τ) = true) ∧ r = 1))))
theorem thr_at {l : List Nat} {τ τ' : Sm} (h : τ.1 = τ'.1) : thr l τ = thr l τ' := by unfold thr; rw [h]
theorem lead_loop {C : Cf} {M0 : Mem} {t0 last : Nat} {lis : Bool} {S : Nat → Sm → Bool} {τ : Sm} {l : List Nat} (hl : ∀ g, g ∈ l → g < 6) (hC : COk C) (hO : Ok C τ) (h0 : t0 ≤ τ.2.2.2.2) (hl4 : last ≤ t0 + 400) (hB : t0 < 2 ^ 29) : ∀ (k n a t : Nat) (M : Mem), last ≤ τ.2.2.2.2 + a + k → k < n → t ≤ a → τ.2.2.2.2 + a ≤ last → CfC M C → HS C t0 lis S M → IsC C M 165 (mn C a τ) → (lis = false → ∀ i, i < a → thr l (mn C i τ) = false) → (∀ i, 1 ≤ i → i ≤ a → S (τ.2.2.2.2 + i - t0) (mn C i τ) = true) → Fr (stS 165) M0 M → wp (f_X9_leadThrough_2 n (bI (lb l)) (nI last) (nI t) M) (LtP C t0 last lis S τ l M0) := by
  intro k
  have c2 := hC.2.1
  induction k using Nat.strongRecOn with
  | ind k ih =>
  intro n a t M hk hn hta hal hM hH hI hnt hSo hF
  obtain ⟨n, rfl⟩ : ∃ n', n = n' + 1 := ⟨n - 1, by omega⟩
  have hOa := ok_mn hC a hO
  have en : M 165 0 = nI (τ.2.2.2.2 + a) := by rw [hI.2.2.2.2.1, mn_now]
  have hnow : (mn C a τ).2.2.2.2 = τ.2.2.2.2 + a := mn_now C a τ
  have goB : (lis = false → thr l (mn C a τ) = false) → τ.2.2.2.2 + a < last → wp (f_X9_leadThrough_42 (f_X9_leadThrough_2 n) (bI (lb l)) (nI last) (nI t) M) (LtP C t0 last lis S τ l M0) := by
    intro h1 h2
    unfold f_X9_leadThrough_42
    rw [wp_bd]
    refine wp_mono (goBy_spec (by decide) hC hM hI hOa hH (by omega) (by omega) hl4 hB) (fun r M1 h => ?_)
    obtain ⟨q, q1, q2, q3, q4, q5, q6, q7⟩ := h
    rw [hnow] at q1 q6 q7
    rw [← mn_add] at q4 q7
    have hnt' : lis = false → ∀ i, i < a + (q + 1) → thr l (mn C i τ) = false := by
      intro hli i hi
      by_cases z : i < a
      · exact hnt hli i z
      · have := quiet_at (i := i - a) q2 q3 (by omega)
        rw [← mn_add, show a + (i - a) = i by omega] at this
        rw [thr_at this]
        exact h1 hli
    have hSq : ∀ i, 1 ≤ i → i ≤ a + q → S (τ.2.2.2.2 + i - t0) (mn C i τ) = true := by
      intro i i1 i2
      by_cases z : i ≤ a
      · exact hSo i i1 z
      · have := q6 (i - a) (by omega) (by omega)
        rw [← mn_add, show a + (i - a) = i by omega, show τ.2.2.2.2 + a + (i - a) - t0 = τ.2.2.2.2 + i - t0 by omega] at this
        exact this
    rw [show τ.2.2.2.2 + a + (q + 1) = τ.2.2.2.2 + (a + (q + 1)) by omega] at q7
    by_cases z : S (τ.2.2.2.2 + (a + (q + 1)) - t0) (mn C (a + (q + 1)) τ) = true
    · rw [q7, b2i_t z, if_neg (by decide), wp_vl, nI_1]
      refine ih (last - (τ.2.2.2.2 + (a + (q + 1)))) (by omega) n (a + (q + 1)) (t + 1) M1 (by omega) (by omega) (by omega) (by omega) (CfC.fr (by omega) c2 q5 hM) (hH.fr c2 (by decide) q5) q4 hnt' (fun i i1 i2 => ?_) (hF.tr q5)
      by_cases w : i = a + (q + 1)
      · subst w; exact z
      · exact hSq i i1 (by omega)
    · rw [q7, b2i_f z, if_pos rfl, wp_s]
      refine ⟨hF.tr q5, Or.inr ⟨?_, Or.inl ⟨a + (q + 1), by omega, by omega, Bool.eq_false_iff.mpr z, rfl⟩⟩⟩
      cases lis with
      | true => rfl
      | false => exact absurd (hH.2.2.1 rfl _ _) z
  unfold f_X9_leadThrough_2
  rw [if_neg (show ¬ 400 < nI t from nI_nlt (a := 400) (by omega) (by omega)), en]
  by_cases hlt : τ.2.2.2.2 + a < last
  · rw [if_pos (nI_lt hlt (by omega)), hH.2.1]
    cases lis with
    | false =>
      rw [if_pos (by decide), ci_thr hC hI hOa.toM, bd_e]
      by_cases z : thr l (mn C a τ) = true
      · rw [if_pos ((thr_bits hl).mpr z), wp_s]
        exact ⟨hF, Or.inl ⟨rfl, Or.inl ⟨a, hal, z, hnt rfl, rfl, hI⟩⟩⟩
      · rw [if_neg (fun w => z ((thr_bits hl).mp w))]
        exact goB (fun _ => Bool.eq_false_iff.mpr z) hlt
    | true =>
      rw [if_neg (by decide)]
      exact goB (fun w => by cases w) hlt
  · rw [if_neg (nI_nlt (by omega) (by omega))]
    unfold f_X9_leadThrough_62
    rw [hH.2.1]
    cases lis with
    | false =>
      rw [if_pos (by decide), ci_thr hC hI hOa.toM, bd_e]
      by_cases z : thr l (mn C a τ) = true
      · rw [if_pos ((thr_bits hl).mpr z)]
        unfold f_X9_leadThrough_82 f_X9_leadThrough_87
        rw [wp_gd]
        refine ⟨by decide, ?_⟩
        rw [wp_s]
        exact ⟨hF, Or.inl ⟨rfl, Or.inl ⟨a, hal, z, hnt rfl, rfl, hI⟩⟩⟩
      · rw [if_neg (fun w => z ((thr_bits hl).mp w))]
        unfold f_X9_leadThrough_87
        rw [wp_gd]
        refine ⟨by decide, ?_⟩
        rw [wp_s]
        refine ⟨hF, Or.inl ⟨rfl, Or.inr ⟨fun j hj => ?_, rfl⟩⟩⟩
        by_cases w : j = a
        · subst w; exact Bool.eq_false_iff.mpr z
        · exact hnt rfl j (by omega)
    | true =>
      rw [if_neg (by decide)]
      unfold f_X9_leadThrough_82 f_X9_leadThrough_87
      rw [wp_gd]
      refine ⟨by decide, ?_⟩
      rw [wp_s]
      exact ⟨hF, Or.inr ⟨rfl, Or.inr ⟨fun j j1 j2 => hSo j j1 (by omega), rfl⟩⟩⟩
/-- whether a day is good -/
def good (C : Cf) (σ : Sm) (L : Nat) (lis : Bool) (S : Nat → Sm → Bool) (l : List Nat) : Prop := (lis = false ∧ ∃ n, n ≤ L ∧ dnb C σ l n = true) ∨ (lis = true ∧ ∀ n, 1 ≤ n → n ≤ L → S n (od C σ l n) = true)
def Bad (C : Cf) (σ : Sm) (L : Nat) (lis : Bool) (S : Nat → Sm → Bool) (p : List Nat) : Prop := ∀ r, (∀ j, j ∈ r → j < C.2.1) → ¬ good C σ L lis S (p ++ r)
def RcA (C : Cf) (σ : Sm) (L : Nat) (lis : Bool) (S : Nat → Sm → Bool) (p : List Nat) (τ : Sm) : Prop := Rch C σ L p τ ∧ (lis = false → RcN C σ L p τ) ∧ (lis = true → τ.2.2.2.2 ≤ σ.2.2.2.2 + L) ∧ RcS C σ L S p τ
def Vd (C : Cf) (σ : Sm) (L : Nat) (lis : Bool) (S : Nat → Sm → Bool) (l : List Nat) (K : Nat) (M : Mem) : Prop := ∃ T : Nat → Sm, ∀ j, j ≤ K → IsC C M (130 + 5 * j) (T j) ∧ RcA C σ L lis S (l.take j) (T j)
theorem Vd.eq {C : Cf} {σ : Sm} {L : Nat} {lis : Bool} {S : Nat → Sm → Bool} {l l' : List Nat} {K K' : Nat} {M M' : Mem} (hK : K' ≤ K) (hl : l'.take K' = l.take K') (h : Vd C σ L lis S l K M) (e : ∀ i k, 130 ≤ i → i < 135 + 5 * K' → M' i k = M i k) : Vd C σ L lis S l' K' M' := by
  obtain ⟨T, hT⟩ := h
  refine ⟨T, fun j hj => ?_⟩
  obtain ⟨h1, h2⟩ := hT j (by omega)
  refine ⟨IsC.eq (fun i k a b _ => e i k (by omega) (by omega)) h1, ?_⟩
  have : l'.take j = l.take j := by
    have := congrArg (List.take j) hl
    rw [List.take_take, List.take_take, Nat.min_eq_left hj] at this
    exact this
  rw [this]; exact h2
def trS : Nat → Nat → Prop := fun i k => (i = 128 ∧ k = 4) ∨ (130 ≤ i ∧ i ≤ 169)
def Wkp (C : Cf) (σ : Sm) (L : Nat) (lis : Bool) (S : Nat → Sm → Bool) (l : List Nat) (M' : Mem) : Prop := ∃ f K, M' 128 4 = pI f ∧ K ≤ l.length ∧ Vd C σ L lis S l K M' ∧ ((f = 0 ∧ K = l.length) ∨ (f = K + 1 ∧ f ≤ l.length ∧ Bad C σ L lis S (l.take f)))
def WkR (C : Cf) (σ : Sm) (L : Nat) (lis : Bool) (S : Nat → Sm → Bool) (l : List Nat) (r : Int32) (M' : Mem) : Prop := (r = 1 ∧ good C σ L lis S l ∧ (lis = false → ∃ n, n ≤ L ∧ dnb C σ l n = true ∧ (∀ j, j < n → dnb C σ l j = false) ∧ IsC C M' 165 (od C σ l n))) ∨ (r = 0 ∧ ¬ good C σ L lis S l)
theorem bad_of {C : Cf} {σ : Sm} {L : Nat} {lis : Bool} {S : Nat → Sm → Bool} {l : List Nat} {f : Nat} (hl : ∀ g, g ∈ l → g < C.2.1) (h : Bad C σ L lis S (l.take f)) : ¬ good C σ L lis S l := by
  have := h (l.drop f) (fun j hj => hl j (List.mem_of_mem_drop hj))
  rw [List.take_append_drop] at this
  exact this
/-- the last of the day -/
theorem walk112 {C : Cf} {M M0 : Mem} {σ τ : Sm} {L : Nat} {lis : Bool} {S : Nat → Sm → Bool} {l : List Nat} (hC : COk C) (hl : ∀ g, g ∈ l → g < C.2.1) (hne : l ≠ []) (hL : L ≤ 400) (hB : σ.2.2.2.2 < 2 ^ 29) (hM : CfC M C) (hH : HS C σ.2.2.2.2 lis S M) (hq : OrC 124 M l) (h4 : M 128 4 = pI 0) (hV : Vd C σ L lis S l l.length M) (hI : IsC C M (130 + 5 * l.length) τ) (hR : RcA C σ L lis S l τ) (hle : τ.2.2.2.2 ≤ σ.2.2.2.2 + L) (hF : Fr trS M0 M) : wp (f_X9_walk_112 124 (nI (σ.2.2.2.2 + L)) M) (fun r M' => Fr trS M0 M' ∧ Wkp C σ L lis S l M' ∧ WkR C σ L lis S l r M') := by
  have c2 := hC.2.1
  have h6 := hq.1
  unfold f_X9_walk_112
  rw [wp_vl, hq.2.1, if_neg (show ¬ (6 : Int32) < nI l.length from nI_nlt (a := 6) (by omega) (by omega)), gd_t (nI_inb (show l.length < 7 by omega) (by decide)), nI_clamp (by omega), wp_bd]
  refine wp_mono (copy_spec (s := 165) (by omega) hI) (fun _ M1 h => ?_)
  obtain ⟨i1, f1⟩ := h
  have hM1 := CfC.fr (by omega) c2 f1 hM
  have hH1 := hH.fr c2 (by decide) f1
  have hq1 : OrC 124 M1 l := hq.eq (f1 124 1 (by unfold stS; omega)) (fun k => f1 125 k (by unfold stS; omega))
  rw [bits_spec hq1 (fun g hg => by have := hl g hg; omega), bd_e, wp_bd]
  have hRc := hR.1
  have h00 := hRc.1
  refine wp_mono (lead_loop (fun g hg => by have := hl g hg; omega) hC hRc.2.2.1 hRc.1 (show σ.2.2.2.2 + L ≤ σ.2.2.2.2 + 400 by omega) hB 400 FU 0 0 M1 (by omega) (by decide) (Nat.le_refl _) hle hM1 hH1 i1 (fun _ i hi => by omega) (fun i i1 i2 => by omega) f1) (fun r M2 h => ?_)
  obtain ⟨f2, h⟩ := h
  have hF2 : Fr trS M0 M2 := hF.tr (f2.mn (fun i k q => by unfold stS at q; unfold trS; omega))
  have hW : Wkp C σ L lis S l M2 := ⟨0, l.length, (f2 128 4 (by unfold stS; omega)).trans h4, Nat.le_refl _, hV.eq (Nat.le_refl _) rfl (fun i k a b => f2 i k (by unfold stS; omega)), Or.inl ⟨rfl, rfl⟩⟩
  have hlast : ∃ q g, l = q ++ [g] := by
    refine ⟨l.dropLast, l.getLast hne, (List.dropLast_concat_getLast hne).symm⟩
  have hod : ∀ n, n ≤ L → τ.2.2.2.2 < σ.2.2.2.2 + n → odS C n (σ, l) = (mn C (σ.2.2.2.2 + n - τ.2.2.2.2) τ, []) := by
    intro n h1 h2
    have := hRc.2.2.2.2 [] n h1 h2
    rw [List.append_nil, dS_nil] at this
    exact this
  rw [wp_gd]
  rcases h with ⟨hli, h⟩ | ⟨hli, h⟩
  · have hN := hR.2.1 hli
    have hnt0 : thr l τ = false := by
      obtain ⟨q, g, e⟩ := hlast
      rw [Bool.eq_false_iff]
      intro z
      exact hN.1 q g e (thr_t.mp z g (by rw [e]; simp))
    have early : ∀ n, n ≤ L → σ.2.2.2.2 + n ≤ τ.2.2.2.2 → dnb C σ l n = false := by
      intro n h1 h2
      rw [Bool.eq_false_iff]
      intro z
      have := hN.2 [] n h1 h2 (by rw [List.append_nil]; exact hne)
      rw [List.append_nil] at this
      exact this (dnb_t.mp z).1
    have late : ∀ n, n ≤ L → τ.2.2.2.2 < σ.2.2.2.2 + n → dnb C σ l n = thr l (mn C (σ.2.2.2.2 + n - τ.2.2.2.2) τ) := by
      intro n h1 h2
      unfold dnb od
      rw [hod n h1 h2]
      rfl
    rcases h with ⟨j, j1, j2, j3, j4, j5⟩ | ⟨j1, j2⟩
    · have hj0 : 0 < j := by
        apply Classical.byContradiction
        intro z
        have : j = 0 := by omega
        subst this
        rw [show mn C 0 τ = τ from rfl, hnt0] at j2
        cases j2
      have h0 := hRc.1
      have ej : σ.2.2.2.2 + (τ.2.2.2.2 + j - σ.2.2.2.2) - τ.2.2.2.2 = j := by omega
      have hd : dnb C σ l (τ.2.2.2.2 + j - σ.2.2.2.2) = true := by rw [late _ (by omega) (by omega), ej]; exact j2
      refine ⟨by rw [j4]; decide, ?_⟩
      rw [wp_s]
      refine ⟨hF2, hW, Or.inl ⟨j4, Or.inl ⟨hli, _, by omega, hd⟩, fun _ => ⟨τ.2.2.2.2 + j - σ.2.2.2.2, by omega, hd, fun i hi => ?_, ?_⟩⟩⟩
      · by_cases z : σ.2.2.2.2 + i ≤ τ.2.2.2.2
        · exact early i (by omega) z
        · rw [late i (by omega) (by omega)]
          exact j3 _ (by omega)
      · unfold od
        rw [hod _ (by omega) (by omega), ej]
        exact j5
    · refine ⟨by rw [j2]; decide, ?_⟩
      rw [wp_s]
      refine ⟨hF2, hW, Or.inr ⟨j2, ?_⟩⟩
      rintro (⟨_, n, n1, n2⟩ | ⟨z, _⟩)
      · by_cases z : σ.2.2.2.2 + n ≤ τ.2.2.2.2
        · rw [early n n1 z] at n2; cases n2
        · rw [late n n1 (by omega), j1 _ (by omega)] at n2; cases n2
      · rw [hli] at z; cases z
  · have late : ∀ n, n ≤ L → τ.2.2.2.2 < σ.2.2.2.2 + n → od C σ l n = mn C (σ.2.2.2.2 + n - τ.2.2.2.2) τ := by
      intro n h1 h2
      unfold od
      rw [hod n h1 h2]
    have h0 := hRc.1
    rcases h with ⟨j, j1, j2, j3, j4⟩ | ⟨j1, j2⟩
    · refine ⟨by rw [j4]; decide, ?_⟩
      rw [wp_s]
      refine ⟨hF2, hW, Or.inr ⟨j4, ?_⟩⟩
      rintro (⟨z, _⟩ | ⟨_, h⟩)
      · rw [hli] at z; cases z
      · have := h (τ.2.2.2.2 + j - σ.2.2.2.2) (by omega) (by omega)
        rw [late _ (by omega) (by omega), show σ.2.2.2.2 + (τ.2.2.2.2 + j - σ.2.2.2.2) - τ.2.2.2.2 = j by omega, j3] at this
        cases this
    · refine ⟨by rw [j2]; decide, ?_⟩
      rw [wp_s]
      refine ⟨hF2, hW, Or.inl ⟨j2, Or.inr ⟨hli, fun n n1 n2 => ?_⟩, fun z => by rw [hli] at z; cases z⟩⟩
      by_cases z : σ.2.2.2.2 + n ≤ τ.2.2.2.2
      · have := hR.2.2.2 [] n n1 n2 z
        rw [List.append_nil] at this
        exact this
      · rw [late n n2 (by omega)]
        have := j1 (σ.2.2.2.2 + n - τ.2.2.2.2) (by omega) (by omega)
        rw [show τ.2.2.2.2 + (σ.2.2.2.2 + n - τ.2.2.2.2) - σ.2.2.2.2 = n by omega] at this
        exact this
