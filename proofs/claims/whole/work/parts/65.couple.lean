/-! what holds between calls -/
def scr0 : Nat → Nat → Prop := fun i k => i = 25 ∨ (31 ≤ i ∧ i ≤ 45) ∨ (124 ≤ i ∧ i ≤ 172) ∨ (i = 23 ∧ 2 ≤ k) ∨ (i = 1 ∧ k = 2) ∨ (i = 26 ∧ 2 ≤ k) ∨ i = 185 ∨ i = 187 ∨ (189 ≤ i ∧ i ≤ 199) ∨ (i = 174 ∧ k ≠ 1 ∧ k ≠ 3 ∧ k ≠ 11 ∧ k ≠ 13 ∧ k ≠ 22 ∧ k ≠ 28 ∧ k ≠ 52 ∧ k ≠ 57)
def scr : Nat → Nat → Prop := fun i k => scr0 i k ∨ i = 173 ∨ (i = 0 ∧ k = 16) ∨ i = 184 ∨ (i = 174 ∧ k = 13)
def cTx : Nat → Nat → Prop := fun i k => i = 2 ∨ i = 183 ∨ (i = 1 ∧ k = 1) ∨ (i = 174 ∧ k = 11)
def cDt : Nat → Nat → Prop := fun i _ => i = 5 ∨ i = 6 ∨ i = 8 ∨ (10 ≤ i ∧ i ≤ 15) ∨ i = 178 ∨ i = 179 ∨ i = 181 ∨ i = 182
def cRl : Nat → Nat → Prop := fun i k => i = 6 ∨ i = 8 ∨ (10 ≤ i ∧ i ≤ 15) ∨ (i = 23 ∧ k = 1) ∨ i = 24 ∨ i = 186 ∨ (i = 174 ∧ k = 22)
def cPs : Nat → Nat → Prop := fun i k => (46 ≤ i ∧ i ≤ 107) ∨ i = 188 ∨ (i = 174 ∧ k = 28)
def cKp : Nat → Nat → Prop := fun i k => (109 ≤ i ∧ i ≤ 119) ∨ (201 ≤ i ∧ i ≤ 203) ∨ (i = 174 ∧ k = 57)
def cHd : Nat → Nat → Prop := fun i k => (i = 120 ∧ k = 3) ∨ (121 ≤ i ∧ i ≤ 123) ∨ i = 200 ∨ (i = 174 ∧ k = 52)
def cHo : Nat → Nat → Prop := fun i k => (3 ≤ i ∧ i ≤ 4) ∨ i = 7 ∨ (17 ≤ i ∧ i ≤ 22) ∨ (i = 174 ∧ (k = 1 ∨ k = 3)) ∨ i = 176 ∨ i = 177 ∨ i = 180
def cSt : Nat → Nat → Prop := fun i k => (i = 26 ∧ k < 2) ∨ (27 ≤ i ∧ i ≤ 30) ∨ i = 175
def TxE (M : Mem) : Prop := ∃ L, L ≤ 80 ∧ M 1 1 = nI L ∧ M 174 11 = nI L ∧ ∀ k, k < 80 → ∃ t, t < 256 ∧ M 2 k = nI t ∧ M 183 k = sB t
def DtE (M : Mem) (C : Cf) : Prop := ∀ g, g < C.2.1 → M 5 g = M 178 g ∧ M 6 g = M 179 g ∧ M 8 g = M 182 g ∧ (∃ z, 1 ≤ z ∧ z ≤ 40 ∧ M 6 g = nI z) ∧ (∃ t, t < 5 ∧ M 5 g = nI t) ∧ ∀ r, r < C.1 → M (10 + g) r = M 181 (6 * g + r) ∧ ∃ t, t ≤ 9 ∧ M (10 + g) r = nI t
def RlE (M : Mem) (C : Cf) : Prop := ∃ R t, RuC M R t ∧ RuR M R t ∧ ∀ g, g < C.2.1 → ∀ r, r < C.1 → nI (C.2.2.2.2.2 g r) = stV M C R t g r
def PsE (N : Nat) (M : Mem) (C : Cf) : Prop := ∃ lt u τ, PsC C M lt u τ ∧ PsR C M u τ ∧ ∀ j, j < u → Ok C (τ j) ∧ (τ j).2.2.2.2 ≤ 1800 * N
def KpE (N : Nat) (M : Mem) (C : Cf) : Prop := ∃ cm, cm ≤ N ∧ M 174 57 = nI cm ∧ ∀ i, i < 2 → ∃ a z, a ≤ C.2.1 + 1 ∧ z ≤ cm ∧ M 109 i = pI a ∧ M 203 i = nI z ∧ ((a = C.2.1 + 1 ∧ ¬ M 202 i = 0 ∧ z = cm ∧ ∃ κ, Ok C κ ∧ κ.2.2.2.2 ≤ 1800 * N ∧ IsC C M (110 + 5 * i) κ ∧ IsR C (fun k => M 201 (25 * i + k)) κ) ∨ (a ≠ C.2.1 + 1 ∧ (M 202 i = 0 ∨ z ≠ cm)))
def HdE (M : Mem) (C : Cf) : Prop := ∃ (h : Nat) (hp hm ht : Nat → Nat), h ≤ 12 ∧ M 120 3 = nI h ∧ M 174 52 = nI h ∧ ∀ i, i < h → hp i < C.1 ∧ 1 ≤ hm i ∧ hm i ≤ 300 ∧ ht i ≤ 5 ∧ M 121 i = nI (hp i) ∧ M 200 (3 * i) = nI (hp i) ∧ M 122 i = nI (hm i) ∧ M 200 (3 * i + 1) = nI (hm i) ∧ M 123 i = pI (ht i) ∧ M 200 (3 * i + 2) = pI (ht i)
def InvE (N : Nat) (C : Cf) (σ : Sm) (M : Mem) : Prop := COk C ∧ Ok C σ ∧ σ.2.2.2.2 ≤ 1800 * N ∧ N ≤ 512 ∧ CfC M C ∧ CfR M C ∧ IsC C M 26 σ ∧ IsR C (M 175) σ ∧ TxE M ∧ DtE M C ∧ RlE M C ∧ PsE N M C ∧ KpE N M C ∧ HdE M C
theorem TxE.eq {M M' : Mem} (h : ∀ i k, cTx i k → M' i k = M i k) (hc : TxE M) : TxE M' := by
  obtain ⟨L, a, b, c, d⟩ := hc
  refine ⟨L, a, (h 1 1 (by unfold cTx; omega)).trans b, (h 174 11 (by unfold cTx; omega)).trans c, fun k hk => ?_⟩
  obtain ⟨t, e, f, g⟩ := d k hk
  exact ⟨t, e, (h 2 k (by unfold cTx; omega)).trans f, (h 183 k (by unfold cTx; omega)).trans g⟩
theorem DtE.eq {M M' : Mem} {C : Cf} (c2 : C.2.1 ≤ 6) (h : ∀ i k, cDt i k → M' i k = M i k) (hc : DtE M C) : DtE M' C := by
  intro g hg
  obtain ⟨a, b, c, ⟨z, d1, d2, d3⟩, ⟨t, e1, e2⟩, f⟩ := hc g hg
  refine ⟨?_, ?_, ?_, ⟨z, d1, d2, (h 6 g (by unfold cDt; omega)).trans d3⟩, ⟨t, e1, (h 5 g (by unfold cDt; omega)).trans e2⟩, fun r hr => ?_⟩
  · rw [h 5 g (by unfold cDt; omega), h 178 g (by unfold cDt; omega)]; exact a
  · rw [h 6 g (by unfold cDt; omega), h 179 g (by unfold cDt; omega)]; exact b
  · rw [h 8 g (by unfold cDt; omega), h 182 g (by unfold cDt; omega)]; exact c
  · rw [h (10 + g) r (by unfold cDt; omega), h 181 _ (by unfold cDt; omega)]; exact f r hr
theorem RuR.fr {M M' : Mem} {R : Nat} {t : Nat → Nat} (h : RuR M R t) (e1 : M' 174 22 = M 174 22) (e2 : ∀ k, M' 186 k = M 186 k) : RuR M' R t := by
  obtain ⟨a, b, c, d⟩ := h
  exact ⟨a, e1.trans b, fun k hk => ⟨(c k hk).1, (e2 k).trans (c k hk).2⟩, d⟩
theorem RlE.eq {M M' : Mem} {C : Cf} (c2 : C.2.1 ≤ 6) (h : ∀ i k, cRl i k → M' i k = M i k) (hc : RlE M C) : RlE M' C := by
  obtain ⟨R, t, a, b, c⟩ := hc
  refine ⟨R, t, a.fr (h 23 1 (by unfold cRl; omega)) (fun k => h 24 k (by unfold cRl; omega)), b.fr (h 174 22 (by unfold cRl; omega)) (fun k => h 186 k (by unfold cRl; omega)), fun g hg r hr => ?_⟩
  rw [c g hg r hr]
  unfold stV
  rw [h 8 g (by unfold cRl; omega), h (10 + g) r (by unfold cRl; omega), h 6 g (by unfold cRl; omega)]
theorem PsC.eq {M M' : Mem} {C : Cf} {lt u : Nat} {τ : Nat → Sm} (h : ∀ i k, 46 ≤ i → i ≤ 107 → M' i k = M i k) (hc : PsC C M lt u τ) : PsC C M' lt u τ := by
  obtain ⟨a, b, c, d, e⟩ := hc
  exact ⟨a, b, (h 46 1 (by omega) (by omega)).trans c, (h 46 2 (by omega) (by omega)).trans d, fun j hj => IsC.eq (fun i k h1 h2 _ => h i k (by omega) (by omega)) (e j hj)⟩
theorem PsR.eq {M M' : Mem} {C : Cf} {u : Nat} {τ : Nat → Sm} (c2 : C.2.1 ≤ 6) (h1 : M' 174 28 = M 174 28) (h : ∀ k, M' 188 k = M 188 k) (hc : PsR C M u τ) : PsR C M' u τ := ⟨h1.trans hc.1, fun j hj => IsR.eq c2 (fun k _ => h _) (hc.2 j hj)⟩
theorem PsE.eq {N N' : Nat} {M M' : Mem} {C : Cf} (c2 : C.2.1 ≤ 6) (hN : N ≤ N') (h : ∀ i k, cPs i k → M' i k = M i k) (hc : PsE N M C) : PsE N' M' C := by
  obtain ⟨lt, u, τ, a, b, c⟩ := hc
  exact ⟨lt, u, τ, a.eq (fun i k h1 h2 => h i k (by unfold cPs; omega)), b.eq c2 (h 174 28 (by unfold cPs; omega)) (fun k => h 188 k (by unfold cPs; omega)), fun j hj => ⟨(c j hj).1, by have := (c j hj).2; omega⟩⟩
theorem KpE.eq {N N' : Nat} {M M' : Mem} {C : Cf} (c2 : C.2.1 ≤ 6) (hN : N ≤ N') (h : ∀ i k, cKp i k → M' i k = M i k) (hc : KpE N M C) : KpE N' M' C := by
  obtain ⟨cm, a, b, c⟩ := hc
  refine ⟨cm, by omega, (h 174 57 (by unfold cKp; omega)).trans b, fun i hi => ?_⟩
  obtain ⟨q, z, d1, d2, d3, d4, d5⟩ := c i hi
  refine ⟨q, z, d1, d2, (h 109 i (by unfold cKp; omega)).trans d3, (h 203 i (by unfold cKp; omega)).trans d4, ?_⟩
  rw [h 202 i (by unfold cKp; omega)]
  rcases d5 with ⟨e1, e2, e3, κ, e4, e5, e6, e7⟩ | e
  · exact Or.inl ⟨e1, e2, e3, κ, e4, by omega, IsC.eq (fun j k h1 h2 _ => h j k (by unfold cKp; omega)) e6, IsR.eq c2 (fun k _ => h 201 _ (by unfold cKp; omega)) e7⟩
  · exact Or.inr e
theorem HdE.eq {M M' : Mem} {C : Cf} (h : ∀ i k, cHd i k → M' i k = M i k) (hc : HdE M C) : HdE M' C := by
  obtain ⟨n, hp, hm, ht, a, b, c, d⟩ := hc
  refine ⟨n, hp, hm, ht, a, (h 120 3 (by unfold cHd; omega)).trans b, (h 174 52 (by unfold cHd; omega)).trans c, fun i hi => ?_⟩
  obtain ⟨e1, e2, e3, e4, e5, e6, e7, e8, e9, e10⟩ := d i hi
  exact ⟨e1, e2, e3, e4, (h 121 i (by unfold cHd; omega)).trans e5, (h 200 _ (by unfold cHd; omega)).trans e6, (h 122 i (by unfold cHd; omega)).trans e7, (h 200 _ (by unfold cHd; omega)).trans e8, (h 123 i (by unfold cHd; omega)).trans e9, (h 200 _ (by unfold cHd; omega)).trans e10⟩
theorem CfC.eq2 {M M' : Mem} {C : Cf} (c2 : C.2.1 ≤ 6) (h : ∀ i k, cHo i k → M' i k = M i k) (hc : CfC M C) : CfC M' C := by
  obtain ⟨h1, h2, h3, h4⟩ := hc
  refine ⟨(h 3 0 (by unfold cHo; omega)).trans h1, (h 3 2 (by unfold cHo; omega)).trans h2, fun r hr => ?_, fun g hg => ?_⟩
  · rw [h 3 1 (by unfold cHo; omega)]; exact h3 r hr
  · obtain ⟨a, b, c⟩ := h4 g hg
    exact ⟨(h 7 g (by unfold cHo; omega)).trans a, (h 4 g (by unfold cHo; omega)).trans b, fun r hr => (h (17 + g) r (by unfold cHo; omega)).trans (c r hr)⟩
theorem CfR.eq2 {M M' : Mem} {C : Cf} (h : ∀ i k, cHo i k → M' i k = M i k) (hc : CfR M C) : CfR M' C := by
  obtain ⟨a1, a2, a3, a4⟩ := hc
  refine ⟨(h 174 1 (by unfold cHo; omega)).trans a1, (h 174 3 (by unfold cHo; omega)).trans a2, fun r hr => (h 176 r (by unfold cHo; omega)).trans (a3 r hr), fun g hg => ?_⟩
  obtain ⟨b1, b2⟩ := a4 g hg
  exact ⟨(h 180 g (by unfold cHo; omega)).trans b1, (h 177 g (by unfold cHo; omega)).trans b2⟩
/-- the cells of where all are, and of the past -/
def stp : Nat → Nat → Prop := fun i k => scr i k ∨ (26 ≤ i ∧ i ≤ 30) ∨ i = 175 ∨ (46 ≤ i ∧ i ≤ 107) ∨ i = 188 ∨ (i = 174 ∧ k = 28)
theorem InvE.st {N N' : Nat} {C : Cf} {σ σ' : Sm} {M M' : Mem} (h : InvE N C σ M) (hN : N ≤ N') (hN2 : N' ≤ 512) (hF : Fr stp M M') (hO : Ok C σ') (hn : σ'.2.2.2.2 ≤ 1800 * N') (h1 : IsC C M' 26 σ') (h2 : IsR C (M' 175) σ') (h3 : PsE N' M' C) : InvE N' C σ' M' := by
  obtain ⟨a1, a2, a3, a4, a5, a6, a7, a8, a9, a10, a11, a12, a13, a14⟩ := h
  have c2 := a1.2.1
  exact ⟨a1, hO, hn, hN2, a5.eq2 c2 (fun i k q => hF i k (by unfold cHo at q; unfold stp scr scr0; omega)), a6.eq2 (fun i k q => hF i k (by unfold cHo at q; unfold stp scr scr0; omega)), h1, h2, a9.eq (fun i k q => hF i k (by unfold cTx at q; unfold stp scr scr0; omega)), a10.eq c2 (fun i k q => hF i k (by unfold cDt at q; unfold stp scr scr0; omega)), a11.eq c2 (fun i k q => hF i k (by unfold cRl at q; unfold stp scr scr0; omega)), h3, a13.eq c2 hN (fun i k q => hF i k (by unfold cKp at q; unfold stp scr scr0; omega)), a14.eq (fun i k q => hF i k (by unfold cHd at q; unfold stp scr scr0; omega))⟩
theorem InvE.fr {N N' : Nat} {C : Cf} {σ : Sm} {M M' : Mem} (h : InvE N C σ M) (hN : N ≤ N') (hN2 : N' ≤ 512) (hF : Fr scr M M') : InvE N' C σ M' := by
  have hF2 : Fr stp M M' := hF.mn (fun i k q => Or.inl q)
  have c2 := h.1.2.1
  refine h.st hN hN2 hF2 h.2.1 (by have := h.2.2.1; omega) (IsC.eq (fun i k h1 h2 h3 => hF i k (by unfold scr scr0; omega)) h.2.2.2.2.2.2.1) (IsR.eq c2 (fun k _ => hF 175 k (by unfold scr scr0; omega)) h.2.2.2.2.2.2.2.1) ?_
  exact h.2.2.2.2.2.2.2.2.2.2.2.1.eq c2 hN (fun i k q => hF i k (by unfold cPs at q; unfold scr scr0; omega))
def Cpl (N : Nat) (M : Mem) : Prop := (∃ C σ, InvE N C σ M) ∧ RowE M
def Both (N : Nat) (fc fr : Mem → Option (Int32 × Mem)) (M : Mem) : Prop := wp (fc M) (fun r M1 => wp (fr M1) (fun r' M2 => r' = r ∧ Cpl (N + 1) M2))
theorem q_row {N : Nat} {C : Cf} {σ : Sm} {M M' : Mem} {l : List Int32} (h : InvE N C σ M) (hN : N < 512) (hF : Fr scr M M') (hl : l.length ≤ 12) (h1 : RwC M' l) (h2 : RwR M' l) : Cpl (N + 1) M' := ⟨⟨C, σ, h.fr (Nat.le_succ N) hN hF⟩, rowE hl h1 h2⟩
theorem row_0 {M M' : Mem} (h : RowE M) (hF : Fr scr0 M M') : RowE M' := h.fr (hF 0 16 (by unfold scr0; omega)) (funext fun k => hF 173 k (by unfold scr0; omega)) (hF 174 13 (by unfold scr0; omega)) (funext fun k => hF 184 k (by unfold scr0; omega))
theorem q_same {N : Nat} {C : Cf} {σ : Sm} {M M' : Mem} (h : InvE N C σ M) (hN : N < 512) (hR : RowE M) (hF : Fr scr0 M M') : Cpl (N + 1) M' := ⟨⟨C, σ, h.fr (Nat.le_succ N) hN (hF.mn (fun i k q => Or.inl q))⟩, row_0 hR hF⟩
/-- where the stays are laid -/
theorem ly_st {N : Nat} {C : Cf} {σ : Sm} {M : Mem} (h : InvE N C σ M) : wp (f_X11_layStays M) (fun _ M' => StR M' C ∧ Fr lyS M M') := by
  obtain ⟨a1, a2, a3, a4, a5, a6, a7, a8, a9, a10, ⟨R, t, b1, b2, b3⟩, a12⟩ := h
  refine wp_mono (layStays_spec a1 a6 b2) (fun r M' q => ⟨fun g hg r hr => ?_, q.2⟩)
  rw [q.1 g hg r hr, b3 g hg r hr]
  obtain ⟨d1, d2, d3, -, -, d6⟩ := a10 g hg
  unfold stR stV
  rw [← d3, ← (d6 r hr).1, ← d2]
theorem rng {x : Int32} {a b : Nat} (ha : a < 2 ^ 31) (hb : b < 2 ^ 31) (h1 : ¬ x < nI a) (h2 : ¬ nI b < x) : ∃ n, a ≤ n ∧ n ≤ b ∧ x = nI n := by
  have h0 : ¬ x < 0 := by
    intro z
    apply h1
    rw [Int32.lt_iff_toInt_lt] at z ⊢
    rw [nI_toInt ha]
    have : (0 : Int32).toInt = 0 := by decide
    omega
  obtain ⟨n, hn, rfl⟩ := nI_of h0
  rw [nI_ltI hn ha] at h1
  rw [nI_ltI hb hn] at h2
  exact ⟨n, by omega, by omega, rfl⟩
/-- a group, or none such -/
theorem gcase (c : Nat) (hc : c ≤ 6) (x : Int32) : (∃ g, g < c ∧ x = nI g) ∨ ((x < 0 ∨ ¬ x < nI c) ∧ ∀ g, g < c → x ≠ nI g) := by
  by_cases h0 : x < 0
  · exact Or.inr ⟨Or.inl h0, fun g hg e => by subst e; exact nI_pos (by omega) h0⟩
  · obtain ⟨j, hj, rfl⟩ := nI_of h0
    by_cases h : j < c
    · exact Or.inl ⟨j, h, rfl⟩
    · refine Or.inr ⟨Or.inr (nI_nlt (by omega) hj), fun g hg e => ?_⟩
      have := (nI_eq hj (by omega)).mp e
      omega
theorem hasG_t {C : Cf} {M : Mem} (hC : COk C) (hM : CfC M C) {g : Nat} (hg : g < C.2.1) : f_X1_hasGroup (nI g) M = some (1, M) := by
  have := hC.2.1
  rw [hasGroup_spec, hM.2.1, b2i_t ⟨nI_pos (by omega), nI_lt hg (by omega)⟩]
theorem hasG_f {C : Cf} {M : Mem} (hM : CfC M C) {x : Int32} (h : x < 0 ∨ ¬ x < nI C.2.1) : f_X1_hasGroup x M = some (0, M) := by
  rw [hasGroup_spec, hM.2.1, b2i_f]
  rintro ⟨a, b⟩
  rcases h with h | h
  · exact a h
  · exact h b
theorem hasR_t {C : Cf} {M : Mem} (hC : COk C) (hM : CfC M C) {g : Nat} (hg : g < C.1) : f_X1_hasRoom (nI g) M = some (1, M) := by
  have := hC.1
  rw [hasRoom_spec, hM.1, b2i_t ⟨nI_pos (by omega), nI_lt hg (by omega)⟩]
theorem hasR_f {C : Cf} {M : Mem} (hM : CfC M C) {x : Int32} (h : x < 0 ∨ ¬ x < nI C.1) : f_X1_hasRoom x M = some (0, M) := by
  rw [hasRoom_spec, hM.1, b2i_f]
  rintro ⟨a, b⟩
  rcases h with h | h
  · exact a h
  · exact h b
theorem sub1_lt {x : Int32} {c : Nat} (hc : c < 2 ^ 31) (h : x < 0 ∨ ¬ x < nI c) : ¬ (¬ x < 0 ∧ ¬ nI c - 1 < x) := by
  rintro ⟨a, b⟩
  rcases h with h | h
  · exact a h
  · apply b
    obtain ⟨j, hj, rfl⟩ := nI_of a
    have h2 : c ≤ j := by
      apply Classical.byContradiction
      intro z
      exact h (nI_lt (by omega) hc)
    by_cases h0 : c = 0
    · rw [h0, nI_m1, Int32.lt_iff_toInt_lt, nI_toInt hj]
      have : (-1 : Int32).toInt = -1 := by decide
      omega
    · rw [nI_sub1 (by omega)]
      exact nI_lt (by omega) hj
theorem isG_t {C : Cf} {M : Mem} (hC : COk C) (hM : CfR M C) {g : Nat} (hg : g < C.2.1) : f_X11_isGroup (nI g) M = some (1, M) := by
  have := hC.2.1
  rw [isGroup_spec, hM.2.1, b2i_t ⟨nI_pos (by omega), by rw [nI_sub1 (by omega)]; exact nI_nlt (by omega) (by omega)⟩]
theorem isG_f {C : Cf} {M : Mem} (hC : COk C) (hM : CfR M C) {x : Int32} (h : x < 0 ∨ ¬ x < nI C.2.1) : f_X11_isGroup x M = some (0, M) := by
  have := hC.2.1
  rw [isGroup_spec, hM.2.1, b2i_f (sub1_lt (by omega) h)]
theorem isR_t {C : Cf} {M : Mem} (hC : COk C) (hM : CfR M C) {g : Nat} (hg : g < C.1) : f_X11_isRoom (nI g) M = some (1, M) := by
  have := hC.1
  rw [isRoom_spec, hM.1, b2i_t ⟨nI_pos (by omega), by rw [nI_sub1 (by omega)]; exact nI_nlt (by omega) (by omega)⟩]
theorem isR_f {C : Cf} {M : Mem} (hC : COk C) (hM : CfR M C) {x : Int32} (h : x < 0 ∨ ¬ x < nI C.1) : f_X11_isRoom x M = some (0, M) := by
  have := hC.1
  rw [isRoom_spec, hM.1, b2i_f (sub1_lt (by omega) h)]
/-- one call's mark that nothing is thrown -/
theorem fr14 {M : Mem} {x : Int32} : Fr scr0 M (up M 174 14 x) := Fr.rf.up (by unfold scr0; omega)
theorem InvE.s0 {N : Nat} {C : Cf} {σ : Sm} {M M' : Mem} (h : InvE N C σ M) (hF : Fr scr0 M M') : InvE N C σ M' := h.fr (Nat.le_refl N) h.2.2.2.1 (hF.mn (fun i k q => Or.inl q))
theorem ly_s0 {M M' : Mem} (h : Fr lyS M M') : Fr scr0 M M' := h.mn (fun i k q => by unfold lyS at q; unfold scr0; omega)
