/-! how long one stays: class and reference -/
def envV (s z : Int32) (r g : Nat) (c o : Bool) : Nat → Int32 := fun ch => if ch = 115 then s else if ch = 122 then z else if ch = 114 then nI r else if ch = 105 then nI g else if ch = 99 then b2i (c = true) else b2i (o = true)
def valR (t : Nat → Nat) (R : Nat) (e : Nat → Int32) : Int32 := match evR t R e with
  | .inl _ => 0
  | .inr w => w.1
def clp (v : Int32) : Int32 := if (0 : Int32) < (if v < (30 : Int32) then v else 30) then (if v < (30 : Int32) then v else 30) else 0
theorem clp_n (v : Int32) : ∃ k, k ≤ 30 ∧ clp v = nI k := by
  unfold clp
  by_cases h : v < 30
  · rw [if_pos h]
    by_cases h0 : 0 < v
    · rw [if_pos h0]
      obtain ⟨j, hj, rfl⟩ := nI_of (x := v) (fun q => by rw [Int32.lt_iff_toInt_lt] at q h0; have : (0 : Int32).toInt = 0 := by decide
                                                         omega)
      have := (nI_ltI (b := 30) hj (by decide)).mp h
      exact ⟨j, by omega, rfl⟩
    · rw [if_neg h0]; exact ⟨0, by decide, rfl⟩
  · rw [if_neg h, if_pos (by decide)]; exact ⟨30, by decide, rfl⟩
/-- a stay out of: bits left out, minutes told, size -/
def stW (C : Cf) (R : Nat) (t : Nat → Nat) (out s z : Int32) (g r : Nat) : Int32 := if bit out (nI r) then 0 else clp (if R = 0 then s else valR t R (envV s z r g (C.2.2.1 r) (C.2.2.2.1 g)))
def stV (M : Mem) (C : Cf) (R : Nat) (t : Nat → Nat) (g r : Nat) : Int32 := stW C R t (M 8 g) (M (10 + g) r) (M 6 g) g r
def stR (M : Mem) (C : Cf) (R : Nat) (t : Nat → Nat) (g r : Nat) : Int32 := stW C R t (M 182 g) (M 181 (6 * g + r)) (M 179 g) g r
theorem stW_n (C : Cf) (R : Nat) (t : Nat → Nat) (out s z : Int32) (g r : Nat) : ∃ k, k ≤ 30 ∧ stW C R t out s z g r = nI k := by
  unfold stW
  split
  · exact ⟨0, by decide, rfl⟩
  · exact clp_n _
def vld (R : Nat) (t : Nat → Nat) : Prop := 0 < R → ∀ e, ∃ v, evR t R e = .inr (v, R)
/-- what the class reads for a stay -/
def HsC (M : Mem) (C : Cf) : Prop := M 3 0 = nI C.1 ∧ M 3 2 = nI C.2.1 ∧ (∀ r, r < C.1 → (bit (M 3 1) (nI r) ↔ C.2.2.1 r = true)) ∧ ∀ g, g < C.2.1 → M 7 g = b2i (C.2.2.2.1 g = true)
def RuC (M : Mem) (R : Nat) (t : Nat → Nat) : Prop := R ≤ 40 ∧ M 23 1 = nI R ∧ (∀ k, k < R → t k < 256 ∧ M 24 k = nI (t k)) ∧ vld R t
def voS : Nat → Nat → Prop := fun i k => i = 23 ∧ 2 ≤ k
theorem lw_vo {M M' : Mem} (h : Fr lwS M M') : Fr voS M M' := h.mn (fun i k q => by unfold lwS at q; unfold voS; omega)
theorem value62 {M M0 : Mem} {C : Cf} {R : Nat} {t : Nat → Nat} {g r : Nat} {s z : Int32} (hg : g < 6) (hR : RuC M R t) (hR0 : 0 < R) (h7 : M 23 7 = s) (h8 : M 23 8 = z) (h9 : M 23 9 = nI r) (h10 : M 23 10 = nI g) (hb : M 7 g = b2i (C.2.2.2.1 g = true)) (hF : Fr voS M0 M) {x : Int32} (hx : x = b2i (C.2.2.1 r = true)) : wp (f_X3_valueOf_62 (nI g) x M) (fun v M' => v = valR t R (envV s z r g (C.2.2.1 r) (C.2.2.2.1 g)) ∧ Fr voS M0 M') := by
  obtain ⟨r40, e1, ht, hv⟩ := hR
  unfold f_X3_valueOf_62
  rw [wp_ml, gd_t (nI_inb hg (by decide)), nI_clamp (by omega), wp_ml, wp_ml, wp_ml, wp_ml, wp_bd]
  have hF2 : Fr voS M (up (up (up (up (up M 23 11 x) 23 12 (up M 23 11 x 7 g)) 23 2 0) 23 3 (up (up (up M 23 11 x) 23 12 (up M 23 11 x 7 g)) 23 2 0 23 1)) 23 4 0) := ((((Fr.rf.up ⟨rfl, by omega⟩).up ⟨rfl, by omega⟩).up ⟨rfl, by omega⟩).up ⟨rfl, by omega⟩).up ⟨rfl, by omega⟩
  have hLC : LC (up (up (up (up (up M 23 11 x) 23 12 (up M 23 11 x 7 g)) 23 2 0) 23 3 (up (up (up M 23 11 x) 23 12 (up M 23 11 x 7 g)) 23 2 0 23 1)) 23 4 0) t R (envV s z r g (C.2.2.1 r) (C.2.2.2.1 g)) := by
    refine ⟨r40, ?_, fun p hp => ⟨(ht p hp).1, ?_⟩, ?_, ?_, ?_, ?_, ?_, ?_⟩
    · simp [up_at, e1]
    · have e2 : dS (up (up (up (up (up M 23 11 x) 23 12 (up M 23 11 x 7 g)) 23 2 0) 23 3 (up (up (up M 23 11 x) 23 12 (up M 23 11 x 7 g)) 23 2 0 23 1)) 23 4 0 23 2) = 24 := by simp [up_at]; rfl
      rw [e2, up_row _ _ _ (by decide), up_row _ _ _ (by decide), up_row _ _ _ (by decide), up_row _ _ _ (by decide), up_row _ _ _ (by decide)]
      exact (ht p hp).2
    · simp [up_at, hx, envV]
    · simp [up_at, h10, envV]
    · simp [up_at, hb, envV]
    · simp [up_at, h9, envV]
    · simp [up_at, h7, envV]
    · simp [up_at, h8, envV]
  refine wp_mono (readAll_ok hLC) (fun v M' q => ?_)
  obtain ⟨q1, q2⟩ := q
  obtain ⟨v0, hv0⟩ := hv hR0 (envV s z r g (C.2.2.1 r) (C.2.2.2.1 g))
  rw [hv0] at q2
  rw [wp_s]
  refine ⟨?_, (hF.tr hF2).tr (lw_vo q1)⟩
  rw [q2.1]
  unfold valR
  rw [hv0]
theorem valueOf_spec {M : Mem} {C : Cf} {R : Nat} {t : Nat → Nat} {g r : Nat} (hC1 : C.1 ≤ 6) (hC2 : C.2.1 ≤ 6) (hH : HsC M C) (hR : RuC M R t) (hg : g < C.2.1) (hr : r < C.1) : wp (f_X3_valueOf (nI g) (nI r) M) (fun v M' => v = (if R = 0 then M (10 + g) r else valR t R (envV (M (10 + g) r) (M 6 g) r g (C.2.2.1 r) (C.2.2.2.1 g))) ∧ Fr voS M M') := by
  have hR' := hR
  obtain ⟨r40, e1, ht, hv⟩ := hR
  unfold f_X3_valueOf f_X3_valueOf_0
  rw [e1]
  simp only [gd_t (nI_inb (show g < 6 by omega) (show 6 ≤ 1000 by decide)), gd_t (nI_inb (show r < 6 by omega) (show 6 ≤ 1000 by decide))]
  rw [nI_clamp (by omega), nI_clamp (by omega)]
  by_cases h0 : R = 0
  · subst h0
    rw [if_pos (show nI 0 = 0 from rfl), wp_s, if_pos rfl]
    exact ⟨rfl, Fr.rf⟩
  · rw [if_neg (nI_ne0 (by omega) (by omega)), wp_ml, wp_ml, wp_ml, wp_ml, if_neg h0, isCorridor_spec, bd_e]
    have hF : Fr voS M (up (up (up (up M 23 7 (M (10 + g) r)) 23 8 (up M 23 7 (M (10 + g) r) 6 g)) 23 9 (nI r)) 23 10 (nI g)) := (((Fr.rf.up ⟨rfl, by omega⟩).up ⟨rfl, by omega⟩).up ⟨rfl, by omega⟩).up ⟨rfl, by omega⟩
    have e31 : up (up (up (up M 23 7 (M (10 + g) r)) 23 8 (up M 23 7 (M (10 + g) r) 6 g)) 23 9 (nI r)) 23 10 (nI g) 3 1 = M 3 1 := hF 3 1 (by unfold voS; omega)
    have hRu : RuC (up (up (up (up M 23 7 (M (10 + g) r)) 23 8 (up M 23 7 (M (10 + g) r) 6 g)) 23 9 (nI r)) 23 10 (nI g)) R t := ⟨r40, (hF 23 1 (by unfold voS; omega)).trans e1, fun k hk => ⟨(ht k hk).1, (hF 24 k (by unfold voS; omega)).trans (ht k hk).2⟩, hv⟩
    rw [e31]
    have fin : ∀ x : Int32, x = b2i (C.2.2.1 r = true) → _ := fun x hx => value62 (C := C) (r := r) (g := g) (s := M (10 + g) r) (z := M 6 g) (M0 := M) (x := x) (by omega) hRu (by omega) (by simp [up_at]) (by simp [up_at]) (by simp [up_at]) (by simp [up_at]) ((hF 7 g (by unfold voS; omega)).trans (hH.2.2.2 g hg)) hF hx
    by_cases hb : bit (M 3 1) (nI r)
    · rw [b2i_t hb, if_neg (by decide)]
      exact fin 1 (by rw [b2i_t ((hH.2.2.1 r hr).mp hb)])
    · rw [b2i_f hb, if_pos rfl]
      exact fin 0 (by rw [b2i_f (fun z => hb ((hH.2.2.1 r hr).mpr z))])
def reS : Nat → Nat → Prop := fun i k => (i = 23 ∧ 2 ≤ k) ∨ (17 ≤ i ∧ i ≤ 22)
theorem HsC.fr {M M' : Mem} {C : Cf} (h : HsC M C) (e : ∀ i k, i = 3 ∨ i = 7 → M' i k = M i k) : HsC M' C := by
  obtain ⟨h1, h2, h3, h4⟩ := h
  exact ⟨(e 3 0 (Or.inl rfl)).trans h1, (e 3 2 (Or.inl rfl)).trans h2, fun r hr => by rw [e 3 1 (Or.inl rfl)]; exact h3 r hr, fun g hg => (e 7 g (Or.inr rfl)).trans (h4 g hg)⟩
theorem RuC.fr {M M' : Mem} {R : Nat} {t : Nat → Nat} (h : RuC M R t) (e1 : M' 23 1 = M 23 1) (e2 : ∀ k, M' 24 k = M 24 k) : RuC M' R t := by
  obtain ⟨a, b, c, d⟩ := h
  exact ⟨a, e1.trans b, fun k hk => ⟨(c k hk).1, (e2 k).trans (c k hk).2⟩, d⟩
theorem reckon_spec {M : Mem} {C : Cf} {R : Nat} {t : Nat → Nat} (hC1 : C.1 ≤ 6) (hC2 : C.2.1 ≤ 6) (hH : HsC M C) (hR : RuC M R t) : wp (f_X1_reckon M) (fun _ M' => (∀ g, g < C.2.1 → ∀ r, r < C.1 → M' (17 + g) r = stV M C R t g r) ∧ Fr reS M M') := by
  unfold f_X1_reckon f_X1_reckon_0
  refine wp_for (α := Unit) (fun n _ x M => f_X1_reckon_2 n x M) C.2.1 (fun g0 _ M1 => (∀ g, g < g0 → ∀ r, r < C.1 → M1 (17 + g) r = stV M C R t g r) ∧ Fr reS M M1) _ (fun n g _ M1 hg hI kk => ?_) (fun n _ M1 hI => ?_) C.2.1 0 FU () M (by omega) (by show C.2.1 < 2000; omega) ⟨fun g hg => absurd hg (Nat.not_lt_zero g), Fr.rf⟩
  · have hI1 := hI.1
    have hIF := hI.2
    have hH1 : HsC M1 C := hH.fr (fun i k hi => hIF i k (by unfold reS; omega))
    show wp (f_X1_reckon_2 (n + 1) (nI g) M1) _
    unfold f_X1_reckon_2
    rw [hH1.2.1, if_pos (nI_lt hg (by omega))]
    refine wp_for (α := Unit) (fun m _ x M => f_X1_reckon_12 (f_X1_reckon_2 n) m (nI g) x M) C.1 (fun r0 _ M2 => (∀ g', g' < g → ∀ r, r < C.1 → M2 (17 + g') r = stV M C R t g' r) ∧ (∀ r, r < r0 → M2 (17 + g) r = stV M C R t g r) ∧ Fr reS M M2) _ (fun m r _ M2 hr hJ kj => ?_) (fun m _ M2 hJ => ?_) C.1 0 FU () M1 (by omega) (by show C.1 < 2000; omega) ⟨hI1, fun r hr => absurd hr (Nat.not_lt_zero r), hIF⟩
    · obtain ⟨j1, j2, jF⟩ := hJ
      have hH2 : HsC M2 C := hH.fr (fun i k hi => jF i k (by unfold reS; omega))
      have hR2 : RuC M2 R t := hR.fr (jF 23 1 (by unfold reS; omega)) (fun k => jF 24 k (by unfold reS; omega))
      have e8 : M2 8 g = M 8 g := jF 8 g (by unfold reS; omega)
      have e10 : M2 (10 + g) r = M (10 + g) r := jF (10 + g) r (by unfold reS; omega)
      have e6 : M2 6 g = M 6 g := jF 6 g (by unfold reS; omega)
      show wp (f_X1_reckon_12 (f_X1_reckon_2 n) (m + 1) (nI g) (nI r) M2) _
      unfold f_X1_reckon_12
      rw [hH2.1, if_pos (nI_lt hr (by omega)), gd_t (nI_inb (show g < 6 by omega) (by decide)), nI_clamp (by omega), wp_vl, e8]
      have fin : ∀ (v : Int32) (M3 : Mem), clp v = stV M C R t g r → Fr voS M2 M3 → wp (f_X1_reckon_58 (f_X1_reckon_2 n) (f_X1_reckon_12 (f_X1_reckon_2 n) m) (nI g) (nI r) v M3) (fun _ M' => (∀ g, g < C.2.1 → ∀ r, r < C.1 → M' (17 + g) r = stV M C R t g r) ∧ Fr reS M M') := by
        intro v M3 hv hF3
        unfold f_X1_reckon_58
        rw [gd_t (nI_inb (show g < 6 by omega) (by decide)), wp_vl, wp_vl, gd_t (nI_inb (show r < 6 by omega) (by decide)), nI_clamp (by omega), nI_clamp (by omega), wp_ml, wp_vl, nI_1]
        have hF4 : Fr reS M2 M3 := hF3.mn (fun i k q => Or.inl q)
        refine kj () _ ⟨fun g' hg' r' hr' => ?_, fun r' hr' => ?_, (jF.tr hF4).up (Or.inr ⟨by omega, by omega⟩)⟩
        · rw [up_row _ _ _ (by omega), hF3 (17 + g') r' (by unfold voS; omega)]
          exact j1 g' hg' r' hr'
        · by_cases e : r' = r
          · subst e; rw [up_self]; exact hv
          · rw [up_col _ _ _ e, hF3 (17 + g) r' (by unfold voS; omega)]
            exact j2 r' (by omega)
      have est : stV M C R t g r = if bit (M 8 g) (nI r) then 0 else clp (if R = 0 then M (10 + g) r else valR t R (envV (M (10 + g) r) (M 6 g) r g (C.2.2.1 r) (C.2.2.2.1 g))) := rfl
      unfold f_X1_reckon_39
      by_cases hb : bit (M 8 g) (nI r)
      · rw [if_pos hb, if_neg (by decide)]
        exact fin 0 M2 (by rw [est, if_pos hb]; decide) Fr.rf
      · rw [if_neg hb, if_pos rfl, wp_bd]
        refine wp_mono (valueOf_spec hC1 hC2 hH2 hR2 hg hr) (fun v M3 q => ?_)
        refine fin v M3 ?_ q.2
        rw [est, if_neg hb, q.1, e10, e6]
    · obtain ⟨j1, j2, jF⟩ := hJ
      have hH2 : HsC M2 C := hH.fr (fun i k hi => jF i k (by unfold reS; omega))
      show wp (f_X1_reckon_12 (f_X1_reckon_2 n) (m + 1) (nI g) (nI C.1) M2) _
      unfold f_X1_reckon_12
      rw [hH2.1, if_neg (nI_nlt (Nat.le_refl _) (by omega)), wp_vl, nI_1]
      refine kk () M2 ⟨fun g' hg' r hr => ?_, jF⟩
      by_cases e : g' = g
      · subst e; exact j2 r hr
      · exact j1 g' (by omega) r hr
  · have hH1 : HsC M1 C := hH.fr (fun i k hi => hI.2 i k (by unfold reS; omega))
    show wp (f_X1_reckon_2 (n + 1) (nI C.2.1) M1) _
    unfold f_X1_reckon_2
    rw [hH1.2.1, if_neg (nI_nlt (Nat.le_refl _) (by omega)), wp_s]
    exact hI
/-! the reference -/
def RuR (M : Mem) (R : Nat) (t : Nat → Nat) : Prop := R ≤ 40 ∧ M 174 22 = nI R ∧ (∀ k, k < R → t k < 256 ∧ M 186 k = sB (t k)) ∧ vld R t
def soS : Nat → Nat → Prop := fun i k => i = 174 ∧ ((15 ≤ k ∧ k ≤ 19) ∨ (23 ≤ k ∧ k ≤ 25))
theorem so74 {M M0 : Mem} {v : Int32} (hF : Fr soS M0 M) : wp (f_X11_stayOf_74 v M) (fun x M' => x = clp v ∧ Fr soS M0 M') := by
  unfold f_X11_stayOf_74
  rw [wp_vl, wp_vl, wp_s]
  exact ⟨rfl, hF⟩
theorem stayOf_spec {M : Mem} {C : Cf} {R : Nat} {t : Nat → Nat} {g r : Nat} (hC : COk C) (hM : CfR M C) (hR : RuR M R t) (hg : g < C.2.1) (hr : r < C.1) : wp (f_X11_stayOf (nI g) (nI r) M) (fun v M' => v = stR M C R t g r ∧ Fr soS M M') := by
  have c1 := hC.1
  have c2 := hC.2.1
  obtain ⟨r40, e1, ht, hv⟩ := hR
  have est : stR M C R t g r = if bit (M 182 g) (nI r) then 0 else clp (if R = 0 then M 181 (6 * g + r) else valR t R (envV (M 181 (6 * g + r)) (M 179 g) r g (C.2.2.1 r) (C.2.2.2.1 g))) := rfl
  unfold f_X11_stayOf f_X11_stayOf_0
  rw [gd_t (nI_inb (show g < 6 by omega) (by decide)), nI_clamp (by omega), mhas_spec, bd_e, est]
  by_cases hb : bit (M 182 g) (nI r)
  · rw [b2i_t hb, if_neg (by decide), wp_s, if_pos hb]
    exact ⟨rfl, Fr.rf⟩
  · rw [b2i_f hb, if_pos rfl, lm6, nI_add, gd_t (nI_inb (show 6 * g + r < 36 by omega) (by decide)), nI_clamp (by omega), wp_vl, e1, if_neg hb]
    by_cases h0 : R = 0
    · subst h0
      rw [if_neg (by decide), if_pos rfl]
      exact so74 Fr.rf
    · rw [if_pos (nIp (by omega) (by omega)), if_neg h0]
      unfold f_X11_begin f_X11_begin_0
      rw [wp_bd, wp_ml, wp_ml, wp_ml, wp_ml, wp_ml, wp_s, wp_ml, wp_ml, wp_ml, wp_bd]
      have hF : Fr soS M (up (up (up (up (up (up (up (up M 174 15 (bc 186)) 174 16 (nI R)) 174 17 40) 174 18 0) 174 19 (-1)) 174 23 1) 174 24 (nI g)) 174 25 (nI r)) := (((((((Fr.rf.up ⟨rfl, by omega⟩).up ⟨rfl, by omega⟩).up ⟨rfl, by omega⟩).up ⟨rfl, by omega⟩).up ⟨rfl, by omega⟩).up ⟨rfl, by omega⟩).up ⟨rfl, by omega⟩).up ⟨rfl, by omega⟩
      have e15 : up (up (up (up (up (up (up (up M 174 15 (bc 186)) 174 16 (nI R)) 174 17 40) 174 18 0) 174 19 (-1)) 174 23 1) 174 24 (nI g)) 174 25 (nI r) 174 15 = bc 186 := by simp [up_at]
      have hRC : RC (up (up (up (up (up (up (up (up M 174 15 (bc 186)) 174 16 (nI R)) 174 17 40) 174 18 0) 174 19 (-1)) 174 23 1) 174 24 (nI g)) 174 25 (nI r)) t R := by
        refine ⟨by rw [e15]; exact bc_0 186, by rw [e15, bc_v (Or.inr rfl)]; exact r40, ⟨R, 40, by omega, by decide, by simp [up_at], by simp [up_at]; rfl, by omega⟩, fun p hp => ⟨(ht p hp).1, ?_⟩⟩
        rw [e15, bc_v (Or.inr rfl), hF 186 p (by unfold soS; omega)]
        exact (ht p hp).2
      have hEv : EvR (up (up (up (up (up (up (up (up M 174 15 (bc 186)) 174 16 (nI R)) 174 17 40) 174 18 0) 174 19 (-1)) 174 23 1) 174 24 (nI g)) 174 25 (nI r)) (envV (M 181 (6 * g + r)) (M 179 g) r g (C.2.2.1 r) (C.2.2.2.1 g)) := by
        refine Or.inr ⟨by simp [up_at], fun M' hM' c hc => ?_⟩
        have f24 : M' 174 24 = nI g := by rw [hM' 174 24 (by unfold rdS; omega)]; simp [up_at]
        have f25 : M' 174 25 = nI r := by rw [hM' 174 25 (by unfold rdS; omega)]; simp [up_at]
        have fo : ∀ i k, i ≠ 174 → M' i k = M i k := fun i k hi => (hM' i k (by unfold rdS; omega)).trans (hF i k (by unfold soS; omega))
        have h6 : c = 115 ∨ c = 122 ∨ c = 114 ∨ c = 105 ∨ c = 99 ∨ c = 111 := by
          unfold isLt at hc
          simp only [Bool.or_eq_true, beq_iff_eq, or_assoc] at hc
          exact hc
        unfold f_X11_valueOf f_X11_valueOf_0 f_X11_valueOf_107 f_X11_valueOf_125
        rw [f24, f25, lm6, nI_add, nI_clamp (show g < 2 ^ 31 by omega), nI_clamp (show r < 2 ^ 31 by omega), nI_clamp (show 6 * g + r < 2 ^ 31 by omega)]
        rw [gd_t (nI_inc (show r < 6 by omega) (by decide)), gd_t (nI_inc (show 6 * g + r < 36 by omega) (by decide)), gd_t (nI_inc (show g < 6 by omega) (by decide)), gd_t (nI_inc (show g < 6 by omega) (by decide)), fo 176 r (by decide), fo 179 g (by decide), fo 180 g (by decide), fo 181 _ (by decide), hM.2.2.1 r hr, (hM.2.2.2 g hg).1]
        rcases h6 with rfl | rfl | rfl | rfl | rfl | rfl
        · rfl
        · rfl
        · rfl
        · rfl
        · show (if b2i (C.2.2.1 r = true) = 0 then some (0, M') else some (1, M')) = some (b2i (C.2.2.1 r = true), M')
          cases C.2.2.1 r <;> rfl
        · show (if b2i (C.2.2.2.1 g = true) = 0 then some (0, M') else some (1, M')) = some (b2i (C.2.2.2.1 g = true), M')
          cases C.2.2.2.1 g <;> rfl
      refine wp_mono (tr_all r40 _ 0 hRC hEv (by simp [up_at]; rfl) (by simp [up_at]) (Nat.zero_le _) (Nat.zero_le _)) (fun v M1 q => ?_)
      obtain ⟨v0, hv0⟩ := hv (by omega) (envV (M 181 (6 * g + r)) (M 179 g) r g (C.2.2.1 r) (C.2.2.2.1 g))
      have hv1 := hv0
      unfold evR at hv1
      rw [hv1] at q
      obtain ⟨q1, q2, q3, q4⟩ := q
      rw [wp_ml]
      have hval : valR t R (envV (M 181 (6 * g + r)) (M 179 g) r g (C.2.2.1 r) (C.2.2.2.1 g)) = v := by unfold valR; rw [hv0, q2]
      rw [hval]
      exact so74 ((hF.tr (q1.mn (fun i k z => by unfold rdS at z; unfold soS; omega))).up ⟨rfl, by omega⟩)
def lyS : Nat → Nat → Prop := fun i k => i = 187 ∨ (i = 174 ∧ ((15 ≤ k ∧ k ≤ 19) ∨ (23 ≤ k ∧ k ≤ 25)))
theorem CfR.so {M M' : Mem} {C : Cf} (h : Fr lyS M M') (hc : CfR M C) : CfR M' C := CfR.eq (h 174 1 (by unfold lyS; omega)) (h 174 3 (by unfold lyS; omega)) (fun i k _ _ => h i k (by unfold lyS; omega)) hc
theorem layStays_spec {M : Mem} {C : Cf} {R : Nat} {t : Nat → Nat} (hC : COk C) (hM : CfR M C) (hR : RuR M R t) : wp (f_X11_layStays M) (fun _ M' => (∀ g, g < C.2.1 → ∀ r, r < C.1 → M' 187 (6 * g + r) = stR M C R t g r) ∧ Fr lyS M M') := by
  have c1 := hC.1
  have c2 := hC.2.1
  unfold f_X11_layStays f_X11_layStays_0
  refine wp_for (α := Unit) (fun n _ x M => f_X11_layStays_2 n x M) C.2.1 (fun g0 _ M1 => (∀ g, g < g0 → ∀ r, r < C.1 → M1 187 (6 * g + r) = stR M C R t g r) ∧ Fr lyS M M1) _ (fun n g _ M1 hg hI kk => ?_) (fun n _ M1 hI => ?_) C.2.1 0 FU () M (by omega) (by show C.2.1 < 2000; omega) ⟨fun g hg => absurd hg (Nat.not_lt_zero g), Fr.rf⟩
  · show wp (f_X11_layStays_2 (n + 1) (nI g) M1) _
    unfold f_X11_layStays_2
    rw [(CfR.so hI.2 hM).2.1, if_pos (nI_lt hg (by omega))]
    refine wp_for (α := Unit) (fun m _ x M => f_X11_layStays_12 (f_X11_layStays_2 n) m (nI g) x M) C.1 (fun r0 _ M2 => (∀ g', g' < g → ∀ r, r < C.1 → M2 187 (6 * g' + r) = stR M C R t g' r) ∧ (∀ r, r < r0 → M2 187 (6 * g + r) = stR M C R t g r) ∧ Fr lyS M M2) _ (fun m r _ M2 hr hJ kj => ?_) (fun m _ M2 hJ => ?_) C.1 0 FU () M1 (by omega) (by show C.1 < 2000; omega) ⟨hI.1, fun r hr => absurd hr (Nat.not_lt_zero r), hI.2⟩
    · obtain ⟨j1, j2, jF⟩ := hJ
      have hM2 := CfR.so jF hM
      have hR2 : RuR M2 R t := by
        obtain ⟨a, b, c, d⟩ := hR
        exact ⟨a, (jF 174 22 (by unfold lyS; omega)).trans b, fun k hk => ⟨(c k hk).1, (jF 186 k (by unfold lyS; omega)).trans (c k hk).2⟩, d⟩
      show wp (f_X11_layStays_12 (f_X11_layStays_2 n) (m + 1) (nI g) (nI r) M2) _
      unfold f_X11_layStays_12
      rw [hM2.1, if_pos (nI_lt hr (by omega)), wp_bd]
      refine wp_mono (stayOf_spec hC hM2 hR2 hg hr) (fun v M3 q => ?_)
      obtain ⟨q1, q2⟩ := q
      rw [lm6, nI_add, gd_t (nI_inb (show 6 * g + r < 36 by omega) (by decide)), nI_clamp (by omega), wp_ml, wp_vl, nI_1]
      have hF4 : Fr lyS M2 M3 := q2.mn (fun i k z => Or.inr z)
      have es : stR M2 C R t g r = stR M C R t g r := by
        unfold stR
        rw [jF 182 g (by unfold lyS; omega), jF 181 _ (by unfold lyS; omega), jF 179 g (by unfold lyS; omega)]
      refine kj () _ ⟨fun g' hg' r' hr' => ?_, fun r' hr' => ?_, (jF.tr hF4).up (Or.inl rfl)⟩
      · rw [up_col _ _ _ (by omega), q2 187 _ (by unfold soS; omega)]
        exact j1 g' hg' r' hr'
      · by_cases e : r' = r
        · subst e; rw [up_self, q1, es]
        · rw [up_col _ _ _ (by omega), q2 187 _ (by unfold soS; omega)]
          exact j2 r' (by omega)
    · obtain ⟨j1, j2, jF⟩ := hJ
      show wp (f_X11_layStays_12 (f_X11_layStays_2 n) (m + 1) (nI g) (nI C.1) M2) _
      unfold f_X11_layStays_12
      rw [(CfR.so jF hM).1, if_neg (nI_nlt (Nat.le_refl _) (by omega)), wp_vl, nI_1]
      refine kk () M2 ⟨fun g' hg' r hr => ?_, jF⟩
      by_cases e : g' = g
      · subst e; exact j2 r hr
      · exact j1 g' (by omega) r hr
  · show wp (f_X11_layStays_2 (n + 1) (nI C.2.1) M1) _
    unfold f_X11_layStays_2
    rw [(CfR.so hI.2 hM).2.1, if_neg (nI_nlt (Nat.le_refl _) (by omega)), wp_s]
    exact hI
