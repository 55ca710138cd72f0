/-! all orders of those -/
def InO (p : Nat → Bool) (l : List Nat) : Prop := l.Perm (fl p 6)
theorem io_mem {p : Nat → Bool} {l : List Nat} (h : InO p l) {g : Nat} : g ∈ l ↔ g < 6 ∧ p g = true := by rw [h.mem_iff, fl_mem]
theorem io_nd {p : Nat → Bool} {l : List Nat} (h : InO p l) : l.Nodup := h.nodup_iff.mpr (fl_nodup p 6)
theorem io_len {p : Nat → Bool} {l : List Nat} (h : InO p l) : l.length ≤ 6 := by rw [h.length_eq]; exact fl_len p 6
theorem io_lb {p : Nat → Bool} {l : List Nat} (h : InO p l) : bI (lb l) = bI p := bI_ext (fun g hg => by
  unfold lb
  rw [Bool.eq_iff_iff, decide_eq_true_iff, io_mem h]
  exact ⟨fun z => z.2, fun z => ⟨hg, z⟩⟩)
theorem io_sum {p : Nat → Bool} {l : List Nat} (h : InO p l) (w : Nat → Nat) : sumB (lb l) w = sumB p w := sumB_ext (fun g hg => by
  have : lb l g = p g := by
    unfold lb
    rw [Bool.eq_iff_iff, decide_eq_true_iff, io_mem h]
    exact ⟨fun z => z.2, fun z => ⟨hg, z⟩⟩
  rw [this])
theorem io_next {p : Nat → Bool} {l l' : List Nat} {q : Nat} (h : InO p l) (e : nxo l = some (q, l')) : InO p l' := (nxo_ok e).1.trans h
theorem ord_loop {St : Type} (F : Nat → St → Int32 → Int32 → Mem → Option (Int32 × Mem)) (stp : St → List Nat → St) (J : St → List Nat → Nat → Mem → Prop) (J' : St → Mem → Prop) (Q : Int32 → Mem → Prop) (SS : St)
    (hs : ∀ n s l fm t M, t < 720 → J s l fm M → (∀ M', nxo l = none → J' (stp s l) M' → wp (F n (stp s l) (-1) (nI (t + 1)) M') Q) → (∀ q l' M', nxo l = some (q, l') → J (stp s l) l' q M' → wp (F n (stp s l) (nI q) (nI (t + 1)) M') Q) → wp (F (n + 1) s (nI fm) (nI t) M) Q)
    (he : ∀ n t M, J' SS M → wp (F (n + 1) SS (-1) t M) Q) : ∀ (k t n : Nat) (l : List Nat) (s : St) (fm : Nat) (M : Mem), t + k = 720 → k < n → ends k l = true → (chain k l).foldl stp s = SS → J s l fm M → wp (F n s (nI fm) (nI t) M) Q
  | 0, _, _, _, _, _, _, _, _, h, _, _ => by cases h
  | k + 1, t, n + 1, l, s, fm, M, ht, hn, hend, hf, hJ => by
    obtain ⟨n, rfl⟩ : ∃ n', n = n' + 1 := ⟨n - 1, by omega⟩
    refine hs (n + 1) s l fm t M (by omega) hJ (fun M' e hJ' => ?_) (fun q l' M' e hJ' => ?_)
    · unfold chain at hf
      rw [e] at hf
      have hf2 : stp s l = SS := hf
      rw [hf2] at hJ' ⊢
      exact he n (nI (t + 1)) M' hJ'
    · unfold chain at hf
      unfold ends at hend
      rw [e] at hf hend
      exact ord_loop F stp J J' Q SS hs he k (t + 1) (n + 1) l' (stp s l) q M' (by omega) (by omega) hend hf hJ'
theorem ord_loopR {St : Type} (F : Nat → St → Int32 → Mem → Option (Int32 × Mem)) (stp : St → List Nat → St) (J : St → List Nat → Mem → Prop) (J' : St → Mem → Prop) (Q : Int32 → Mem → Prop) (SS : St)
    (hs : ∀ n s l M, J s l M → (∀ M', nxo l = none → J' (stp s l) M' → wp (F n (stp s l) 0 M') Q) → (∀ q l' M', nxo l = some (q, l') → J (stp s l) l' M' → wp (F n (stp s l) 1 M') Q) → wp (F (n + 1) s 1 M) Q)
    (he : ∀ n M, J' SS M → wp (F (n + 1) SS 0 M) Q) : ∀ (k n : Nat) (l : List Nat) (s : St) (M : Mem), k < n → ends k l = true → (chain k l).foldl stp s = SS → J s l M → wp (F n s 1 M) Q
  | 0, _, _, _, _, _, h, _, _ => by cases h
  | k + 1, n + 1, l, s, M, hn, hend, hf, hJ => by
    obtain ⟨n, rfl⟩ : ∃ n', n = n' + 1 := ⟨n - 1, by omega⟩
    refine hs (n + 1) s l M hJ (fun M' e hJ' => ?_) (fun q l' M' e hJ' => ?_)
    · unfold chain at hf
      rw [e] at hf
      have hf2 : stp s l = SS := hf
      rw [hf2] at hJ' ⊢
      exact he n M' hJ'
    · unfold chain at hf
      unfold ends at hend
      rw [e] at hf hend
      exact ord_loopR F stp J J' Q SS hs he k (n + 1) l' (stp s l) M' (by omega) hend hf hJ'
/-- those that are asked for: there, outside, and at least one -/
def Tho (C : Cf) (σ : Sm) (p : Nat → Bool) : Prop := (∀ g, C.2.1 ≤ g → p g = false) ∧ (∀ g, p g = true → σ.1 g = 0) ∧ ∃ g, p g = true
theorem tho_l {C : Cf} {σ : Sm} {p : Nat → Bool} (h : Tho C σ p) {l : List Nat} (hl : InO p l) : (∀ g, g ∈ l → g < C.2.1) ∧ ∀ g, g ∈ l → σ.1 g = 0 := by
  refine ⟨fun g hg => ?_, fun g hg => h.2.1 g ((io_mem hl).mp hg).2⟩
  apply Classical.byContradiction
  intro z
  have := ((io_mem hl).mp hg).2
  rw [h.1 g (by omega)] at this
  cases this
theorem tho_ne {C : Cf} {σ : Sm} {p : Nat → Bool} (hC : COk C) (h : Tho C σ p) {l : List Nat} (hl : InO p l) : 0 < l.length := by
  obtain ⟨g, hg⟩ := h.2.2
  have c2 := hC.2.1
  have hg6 : g < 6 := by
    apply Classical.byContradiction
    intro z
    rw [h.1 g (by omega)] at hg
    cases hg
  have : g ∈ l := (io_mem hl).mpr ⟨hg6, hg⟩
  exact List.length_pos_of_mem this
def obS : Nat → Nat → Prop := fun i _ => 124 ≤ i ∧ i ≤ 169
theorem ob_s0 {M M' : Mem} (h : Fr obS M M') : Fr scr0 M M' := h.mn (fun i k q => s0_tr (by unfold obS at q; omega))
def CB (C : Cf) (σ : Sm) (lis : Bool) (S : Nat → Sm → Bool) (p : Nat → Bool) (l : List Nat) (M0 M : Mem) : Prop := CfC M C ∧ HS C σ.2.2.2.2 lis S M ∧ OrC 124 M l ∧ InO p l ∧ Fr obS M0 M
theorem walkC {C : Cf} {σ : Sm} {lis : Bool} {S : Nat → Sm → Bool} {p : Nat → Bool} {l : List Nat} {M0 M : Mem} {L fm : Nat} (hC : COk C) (hB : σ.2.2.2.2 < 2 ^ 29) (hp : Tho C σ p) (hL : L ≤ 400) (h : CB C σ lis S p l M0 M) (hW : Wpr C σ L lis S l fm M) (hfm : fm < l.length) : wp (f_X9_walk 124 (nI fm) (nI L) M) (fun r M' => CB C σ lis S p l M0 M' ∧ Wkp C σ L lis S l M' ∧ WkR C σ L lis S l r M' ∧ Fr trS M M') := by
  obtain ⟨a1, a2, a3, a4, a5⟩ := h
  have c2 := hC.2.1
  refine wp_mono (walk_spec hC (tho_l hp a4).1 (tho_l hp a4).2 (io_nd a4) hfm hL hB a1 a2 a3 hW) (fun r M' q => ?_)
  obtain ⟨q1, q2, q3⟩ := q
  refine ⟨⟨CfC.eq c2 (fun i k hi => q1 i k (by unfold trS; omega)) a1, a2.eq c2 (fun i k hi => q1 i k (by unfold trS; omega)), a3.eq (q1 124 1 (by unfold trS; omega)) (fun k => q1 125 k (by unfold trS; omega)), a4, a5.tr (q1.mn (fun i k z => by unfold trS at z; unfold obS; omega))⟩, q2, q3, q1⟩
theorem Vd.cells {C : Cf} {σ : Sm} {L : Nat} {lis : Bool} {S : Nat → Sm → Bool} {l : List Nat} {K : Nat} {M M' : Mem} (h : Vd C σ L lis S l K M) (e : ∀ i k, 130 ≤ i → M' i k = M i k) : Vd C σ L lis S l K M' := h.eq (Nat.le_refl _) rfl (fun i k a _ => e i k a)
theorem Wkp.cells {C : Cf} {σ : Sm} {L : Nat} {lis : Bool} {S : Nat → Sm → Bool} {l : List Nat} {M M' : Mem} (h : Wkp C σ L lis S l M) (e : ∀ i k, 128 ≤ i → M' i k = M i k) : Wkp C σ L lis S l M' := by
  obtain ⟨f, K, h1, h2, h3, h4⟩ := h
  exact ⟨f, K, (e 128 4 (by omega)).trans h1, h2, h3.cells (fun i k z => e i k (by omega)), h4⟩
theorem Wpr.cells {C : Cf} {σ : Sm} {L : Nat} {lis : Bool} {S : Nat → Sm → Bool} {l : List Nat} {fm : Nat} {M M' : Mem} (h : Wpr C σ L lis S l fm M) (e : ∀ i k, 128 ≤ i → M' i k = M i k) : Wpr C σ L lis S l fm M' := by
  obtain ⟨f, h1, h2, h3⟩ := h
  refine ⟨f, (e 128 4 (by omega)).trans h1, h2, ?_⟩
  rcases h3 with ⟨a, b, c, d, h⟩ | ⟨a, h⟩
  · exact Or.inl ⟨a, b, c, d, h.cells (fun i k z => e i k (by omega))⟩
  · exact Or.inr ⟨a, h.cells (fun i k z => e i k (by omega))⟩
theorem CB.cells {C : Cf} {σ : Sm} {lis : Bool} {S : Nat → Sm → Bool} {p : Nat → Bool} {l : List Nat} {M0 M M' : Mem} (hc : C.2.1 ≤ 6) (h : CB C σ lis S p l M0 M) (hF : Fr (fun i _ => i = 126 ∨ i = 127) M M') : CB C σ lis S p l M0 M' := by
  obtain ⟨a1, a2, a3, a4, a5⟩ := h
  exact ⟨CfC.eq hc (fun i k hi => hF i k (by omega)) a1, a2.eq hc (fun i k hi => hF i k (by omega)), a3.eq (hF 124 1 (by omega)) (fun k => hF 125 k (by omega)), a4, a5.tr (hF.mn (fun i k z => by unfold obS; omega))⟩
theorem turnC {C : Cf} {σ : Sm} {lis : Bool} {S : Nat → Sm → Bool} {p : Nat → Bool} {l : List Nat} {M0 M : Mem} {L : Nat} (hC : COk C) (hp : Tho C σ p) (h : CB C σ lis S p l M0 M) (hW : Wkp C σ L lis S l M) : wp (f_X5_turnToNext 124 M) (fun r M' => (nxo l = none ∧ r = -1 ∧ M' = M) ∨ ∃ q l', nxo l = some (q, l') ∧ r = nI q ∧ CB C σ lis S p l' M0 M' ∧ Wpr C σ L lis S l' q M' ∧ q < l'.length ∧ Fr (fun i _ => i = 125) M M') := by
  obtain ⟨a1, a2, a3, a4, a5⟩ := h
  have c2 := hC.2.1
  refine wp_mono (turn_cls a3 (fun g hg => ((io_mem a4).mp hg).1) (tho_ne hC hp a4)) (fun r M' q => ?_)
  rcases q with q | ⟨q, l', q1, q2, q3, q4⟩
  · exact Or.inl q
  · have hk := nxo_ok q1
    have hlen := hk.1.length_eq
    refine Or.inr ⟨q, l', q1, q2, ⟨CfC.eq c2 (fun i k hi => q4 i k (by omega)) a1, a2.eq c2 (fun i k hi => q4 i k (by omega)), q3, io_next a4 q1, a5.tr (q4.mn (fun i k z => by unfold obS; omega))⟩, ?_, by omega, q4⟩
    exact (wpr_of a3.1 hlen (by omega) hk.2.2 hW).cells (fun i k z => q4 i k (by omega))
theorem wk_yes {C : Cf} {σ : Sm} {L : Nat} {S : Nat → Sm → Bool} {l : List Nat} {r : Int32} {M : Mem} (hL : L ≤ 400) (h : WkR C σ L false S l r M) : (∃ n, r = 1 ∧ odv C σ l = some n ∧ n ≤ L ∧ IsC C M 165 (od C σ l n)) ∨ (r = 0 ∧ ∀ n, odv C σ l = some n → L < n) := by
  rcases h with ⟨h1, _, h3⟩ | ⟨h1, h2⟩
  · obtain ⟨n, n1, n2, n3, n4⟩ := h3 rfl
    exact Or.inl ⟨n, h1, dv_some.mpr ⟨by omega, n2, n3⟩, n1, n4⟩
  · refine Or.inr ⟨h1, fun n e => ?_⟩
    obtain ⟨_, e2, _⟩ := dv_some.mp e
    apply Classical.byContradiction
    intro z
    exact h2 (Or.inl ⟨rfl, n, by omega, e2⟩)
theorem gone_spec {C : Cf} {σ : Sm} {S : Nat → Sm → Bool} {lis : Bool} {l : List Nat} {n : Nat} {M : Mem} (hC : COk C) (hO : Ok C σ) (hl : ∀ g, g ∈ l → g < C.2.1) (hH : HS C σ.2.2.2.2 lis S M) (hI : IsC C M 165 (od C σ l n)) : f_X9_minutesGone M = some (nI n, M) := by
  unfold f_X9_minutesGone f_X9_minutesGone_0
  rw [hI.2.2.2.2.1, hH.1]
  unfold od
  rw [(dS_inv hC n hO hl).2.1, pk_sub (by omega), show σ.2.2.2.2 + n - σ.2.2.2.2 = n by omega]
def wto (C : Cf) (σ : Sm) (l : List Nat) (n : Nat) : Nat := sumB (lb l) (od C σ l n).2.2.1
theorem wto_le {C : Cf} {σ : Sm} {l : List Nat} {n : Nat} (hC : COk C) (hO : Ok C σ) (hl : ∀ g, g ∈ l → g < C.2.1) (hl0 : ∀ g, g ∈ l → σ.1 g = 0) (hn : n ≤ 400) : wto C σ l n ≤ 2400 := by
  have key : ∀ g, (if lb l g = true then (od C σ l n).2.2.1 g else 0) ≤ 400 := by
    intro g
    by_cases z : g ∈ l
    · have h1 := (dS_inv hC n hO hl).2.2.1 g
      have h2 := hO.2.2.2.1 g (hl0 g z)
      unfold lb
      rw [if_pos (decide_eq_true z)]
      unfold od
      omega
    · unfold lb
      rw [if_neg (by rw [decide_eq_false z]; decide)]
      omega
  unfold wto
  rw [sumB_eq]
  have := key 0
  have := key 1
  have := key 2
  have := key 3
  have := key 4
  have := key 5
  omega
