/-! the reference's half, the class's half -/
def HlR (M : Mem) (C : Cf) : Prop := CfR M C ∧ ∃ R t, RuR M R t ∧ ∀ g, g < C.2.1 → ∀ r, r < C.1 → stR M C R t g r = nI (C.2.2.2.2.2 g r)
theorem InvE.hl {N : Nat} {C : Cf} {σ : Sm} {M : Mem} (h : InvE N C σ M) : HlR M C := by
  obtain ⟨a1, a2, a3, a4, a5, a6, a7, a8, a9, a10, ⟨R, t, b1, b2, b3⟩, a12⟩ := h
  refine ⟨a6, R, t, b2, fun g hg r hr => ?_⟩
  rw [b3 g hg r hr]
  obtain ⟨d1, d2, d3, -, -, d6⟩ := a10 g hg
  unfold stR stV
  rw [← d3, ← (d6 r hr).1, ← d2]
def cHl : Nat → Nat → Prop := fun i k => (176 ≤ i ∧ i ≤ 182) ∨ i = 186 ∨ (i = 174 ∧ (k = 1 ∨ k = 3 ∨ k = 22))
theorem HlR.eq {M M' : Mem} {C : Cf} (h : ∀ i k, cHl i k → M' i k = M i k) (hc : HlR M C) : HlR M' C := by
  obtain ⟨a, R, t, b, c⟩ := hc
  refine ⟨CfR.eq (h 174 1 (by unfold cHl; omega)) (h 174 3 (by unfold cHl; omega)) (fun i k h1 h2 => h i k (by unfold cHl; omega)) a, R, t, b.fr (h 174 22 (by unfold cHl; omega)) (fun k => h 186 k (by unfold cHl; omega)), fun g hg r hr => ?_⟩
  rw [← c g hg r hr]
  unfold stR
  rw [h 182 g (by unfold cHl; omega), h 181 _ (by unfold cHl; omega), h 179 g (by unfold cHl; omega)]
theorem HlR.ly {M : Mem} {C : Cf} (hC : COk C) (h : HlR M C) : wp (f_X11_layStays M) (fun _ M' => StR M' C ∧ Fr lyS M M') := by
  obtain ⟨a, R, t, b, c⟩ := h
  exact wp_mono (layStays_spec hC a b) (fun r M' q => ⟨fun g hg r hr => by rw [q.1 g hg r hr]; exact c g hg r hr, q.2⟩)
theorem HlR.stay {M : Mem} {C : Cf} {g r : Nat} (hC : COk C) (h : HlR M C) (hg : g < C.2.1) (hr : r < C.1) : wp (f_X11_stayOf (nI g) (nI r) M) (fun v M' => v = nI (C.2.2.2.2.2 g r) ∧ Fr soS M M') := by
  obtain ⟨a, R, t, b, c⟩ := h
  exact wp_mono (stayOf_spec hC a b hg hr) (fun v M' q => ⟨q.1.trans (c g hg r hr), q.2⟩)
/-- what a run of the class's, or of the reference's, leaves alone -/
def hiS : Nat → Nat → Prop := fun i _ => i < 174
def loS : Nat → Nat → Prop := fun i _ => 174 ≤ i
theorem s0_74 {i k : Nat} (h : i = 174 ∧ k ≠ 1 ∧ k ≠ 3 ∧ k ≠ 11 ∧ k ≠ 13 ∧ k ≠ 22 ∧ k ≠ 28 ∧ k ≠ 52 ∧ k ≠ 57) : scr0 i k := Or.inr (Or.inr (Or.inr (Or.inr (Or.inr (Or.inr (Or.inr (Or.inr (Or.inr h))))))))
theorem s0_9x {i k : Nat} (h : 189 ≤ i ∧ i ≤ 199) : scr0 i k := Or.inr (Or.inr (Or.inr (Or.inr (Or.inr (Or.inr (Or.inr (Or.inr (Or.inl h))))))))
theorem s0_87 {i k : Nat} (h : i = 187) : scr0 i k := Or.inr (Or.inr (Or.inr (Or.inr (Or.inr (Or.inr (Or.inr (Or.inl h)))))))
theorem s0_85 {i k : Nat} (h : i = 185) : scr0 i k := Or.inr (Or.inr (Or.inr (Or.inr (Or.inr (Or.inr (Or.inl h))))))
theorem s0_26 {i k : Nat} (h : i = 26 ∧ 2 ≤ k) : scr0 i k := Or.inr (Or.inr (Or.inr (Or.inr (Or.inr (Or.inl h)))))
theorem s0_12 {i k : Nat} (h : i = 1 ∧ k = 2) : scr0 i k := Or.inr (Or.inr (Or.inr (Or.inr (Or.inl h))))
theorem s0_23 {i k : Nat} (h : i = 23 ∧ 2 ≤ k) : scr0 i k := Or.inr (Or.inr (Or.inr (Or.inl h)))
theorem s0_tr {i k : Nat} (h : 124 ≤ i ∧ i ≤ 172) : scr0 i k := Or.inr (Or.inr (Or.inl h))
theorem s0_fo {i k : Nat} (h : 31 ≤ i ∧ i ≤ 45) : scr0 i k := Or.inr (Or.inl h)
theorem s0_25 {i k : Nat} (h : i = 25) : scr0 i k := Or.inl h
theorem ps_stp {M M' : Mem} (h : Fr psS M M') : Fr stp M M' := h.mn (fun i k q => Or.inr (Or.inr (Or.inr (Or.inl q))))
theorem st_stp {M M' : Mem} (h : Fr (stS 26) M M') : Fr stp M M' := h.mn (fun i k q => Or.inr (Or.inl ⟨q.1, by have := q.2; omega⟩))
theorem rc_scr {M M' : Mem} (h : Fr rcS M M') : Fr scr M M' := h.mn (fun i k q => by
  rcases q with q | q
  · exact Or.inr (Or.inl q)
  · exact Or.inr (Or.inr (Or.inl q)))
theorem rr_scr {M M' : Mem} (h : Fr rrS M M') : Fr scr M M' := h.mn (fun i k q => Or.inr (Or.inr (Or.inr q)))
theorem s_stp {M M' : Mem} (h : Fr scr M M') : Fr stp M M' := h.mn (fun i k q => Or.inl q)
theorem s0_scr {M M' : Mem} (h : Fr scr0 M M') : Fr scr M M' := h.mn (fun i k q => Or.inl q)
theorem s0_stp {M M' : Mem} (h : Fr scr0 M M') : Fr stp M M' := s_stp (s0_scr h)
theorem rm_stp {M M' : Mem} (h : Fr rmS M M') : Fr stp M M' := h.mn (fun i k q => Or.inr (Or.inr (Or.inr (Or.inr q))))
theorem mn_stp {M M' : Mem} (h : Fr (mnS 175) M M') : Fr stp M M' := h.mn (fun i k q => by
  rcases q with q | q
  · exact Or.inr (Or.inr (Or.inl q))
  · exact Or.inl (Or.inl (s0_74 (by omega))))
theorem mn_scr {M M' : Mem} (h : Fr (mnS 191) M M') : Fr scr0 M M' := h.mn (fun i k q => by
  rcases q with q | q
  · exact s0_9x (by omega)
  · exact s0_74 (by omega))
theorem st_scr {M M' : Mem} {s : Nat} (hs : 31 ≤ s ∧ s + 4 ≤ 45 ∨ 124 ≤ s ∧ s + 4 ≤ 172) (h : Fr (stS s) M M') : Fr scr0 M M' := h.mn (fun i k q => by
  have q1 := q.1
  have q2 := q.2
  rcases hs with z | z
  · exact s0_fo (by omega)
  · exact s0_tr (by omega))
theorem ps_mk {N : Nat} {C : Cf} {M : Mem} {σ : Sm} {u lt' : Nat} {τ : Nat → Sm} (h1 : PsC C M lt' (pu1 u) (psh σ τ)) (h2 : PsR C M (pu1 u) (psh σ τ)) (h3 : ∀ j, j < u → Ok C (τ j) ∧ (τ j).2.2.2.2 ≤ 1800 * N) (hO : Ok C σ) (hn : σ.2.2.2.2 ≤ 1800 * N) : PsE (N + 1) M C := by
  refine ⟨lt', pu1 u, psh σ τ, h1, h2, fun j hj => ?_⟩
  unfold psh
  by_cases e : j = 0
  · rw [if_pos e]; exact ⟨hO, by omega⟩
  · rw [if_neg e]
    have hj2 : j - 1 < u := by unfold pu1 at hj; split at hj <;> omega
    have := h3 (j - 1) hj2
    exact ⟨this.1, by omega⟩
/-! sums -/
theorem sumB_add (p : Nat → Bool) (w d : Nat → Nat) : sumB p (fun g => w g + d g) = sumB p w + sumB p d := by
  have key : ∀ g, (if p g = true then w g + d g else 0) = (if p g = true then w g else 0) + (if p g = true then d g else 0) := by
    intro g; split <;> rfl
  rw [sumB_eq, sumB_eq, sumB_eq, key, key, key, key, key, key]
  omega
theorem sumB_tb (p : Nat → Bool) (w : Nat → Nat) : sumB (tb (bI p)) w = sumB p w := sumB_ext (fun g hg => by rw [tb_bI hg])
theorem minute_sum {C : Cf} {σ : Sm} (hC : COk C) (hO : Ok C σ) : sumB (allB C.2.1) (minute C σ).2.2.1 = sumB (allB C.2.1) σ.2.2.1 + sumB (wtb (mid C σ).1) (fun _ => 1) := by
  have e : (minute C σ).2.2.1 = fun g => σ.2.2.1 g + (if wtb (mid C σ).1 g = true then 1 else 0) := funext (minute_wt C σ)
  rw [e, sumB_add]
  congr 1
  have hOm : OkM C (mid C σ).1 := okm_run hC 36 (p := (dec σ, fun _ => false)) (okm_dec hO.toM)
  refine sumB_ext (fun g hg => ?_)
  unfold allB
  by_cases h : g < C.2.1
  · rw [if_pos (by simpa using h)]
  · rw [if_neg (by simpa using h), if_neg (by rw [wtb_hi hOm (by omega)]; decide)]
theorem mn_sum_le {C : Cf} (hC : COk C) : ∀ (k : Nat) {σ : Sm}, Ok C σ → sumB (allB C.2.1) σ.2.2.1 ≤ sumB (allB C.2.1) (mn C k σ).2.2.1
  | 0, _, _ => Nat.le_refl _
  | k + 1, σ, hO => by
    have h1 := minute_sum hC hO
    have h2 := mn_sum_le hC k (ok_minute hC hO)
    show _ ≤ sumB (allB C.2.1) (mn C k (minute C σ)).2.2.1
    omega
