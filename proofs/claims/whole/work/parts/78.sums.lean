/-! sums of stays, the longest -/
def Sy (C : Cf) (g r : Nat) : Nat := C.2.2.2.2.2 g r
theorem Sy_le {C : Cf} (hC : COk C) (g r : Nat) : Sy C g r ≤ 30 := hC.2.2.1 g r
def whl (C : Cf) (g : Nat) : Nat := foldF (fun r a => a + Sy C g r) C.1 0 0
def tog (C : Cf) (p : Nat → Bool) (r : Nat) : Nat := foldF (fun g a => if p g = true then a + Sy C g r else a) C.2.1 0 0
theorem fold_le {f : Nat → Nat → Nat} {B : Nat} (h : ∀ k x, f k x ≤ x + B) : ∀ (m g a : Nat), foldF f m g a ≤ a + m * B
  | 0, _, a => by show a ≤ _; omega
  | m + 1, g, a => by
    show foldF f m (g + 1) (f g a) ≤ _
    have h1 := fold_le h m (g + 1) (f g a)
    have h2 := h g a
    rw [Nat.add_mul]
    omega
theorem whl_le {C : Cf} (hC : COk C) (g : Nat) : whl C g ≤ 180 := by
  have h := fold_le (f := fun r a => a + Sy C g r) (B := 30) (fun k x => by have := Sy_le hC g k; show x + Sy C g k ≤ _; omega) C.1 0 0
  have := hC.1
  have h3 : C.1 * 30 ≤ 6 * 30 := Nat.mul_le_mul_right 30 this
  unfold whl
  omega
theorem tog_le {C : Cf} (hC : COk C) (p : Nat → Bool) (r : Nat) : tog C p r ≤ 180 := by
  have h := fold_le (f := fun g a => if p g = true then a + Sy C g r else a) (B := 30) (fun k x => by have := Sy_le hC k r; show (if p k = true then x + Sy C k r else x) ≤ _; split <;> omega) C.2.1 0 0
  have := hC.2.1
  have h3 : C.2.1 * 30 ≤ 6 * 30 := Nat.mul_le_mul_right 30 this
  unfold tog
  omega
theorem cStay {C : Cf} {M : Mem} (hM : CfC M C) {g r : Nat} (hg : g < C.2.1) (hr : r < C.1) : M (17 + g) r = nI (Sy C g r) := (hM.2.2.2 g hg).2.2 r hr
theorem rStay {C : Cf} {M : Mem} (hT : StR M C) {g r : Nat} (hg : g < C.2.1) (hr : r < C.1) : M 187 (6 * g + r) = nI (Sy C g r) := hT g hg r hr
theorem foldF_sn {f : Nat → Nat → Nat} (N a : Nat) : foldF f (N + 1) 0 a = f N (foldF f N 0 a) := by
  have := foldF_last f N 0 a
  rw [Nat.zero_add] at this
  exact this
theorem c_whole {C : Cf} {M : Mem} (hC : COk C) (hM : CfC M C) {g : Nat} (hg : g < C.2.1) : f_X1_wholeStay (nI g) M = some (nI (whl C g), M) := by
  have c1 := hC.1
  have c2 := hC.2.1
  refine (loopF (L := fun n a x => f_X1_wholeStay_4 n (nI g) a x M) (E := fun a => some (a, M)) (f := fun r a => a + nI (Sy C g r)) (N := C.1) (fun n r a hr => ?_) (fun n a => ?_) C.1 0 FU 0 (Nat.zero_add _) (by show C.1 < 2000; omega)).trans ?_
  · show f_X1_wholeStay_4 (n + 1) (nI g) a (nI r) M = _
    conv => lhs; unfold f_X1_wholeStay_4
    rw [hM.1, if_pos (nI_lt hr (by omega)), gd_t (nI_inb (show g < 6 by omega) (by decide)), gd_t (nI_inb (show r < 6 by omega) (by decide)), nI_clamp (by omega), nI_clamp (by omega), cStay hM hg hr]
    simp only [vl, nI_1]
  · show f_X1_wholeStay_4 (n + 1) (nI g) a (nI C.1) M = _
    conv => lhs; unfold f_X1_wholeStay_4
    rw [hM.1, if_neg (nI_nlt (Nat.le_refl _) (by omega))]
  · congr 2
    exact foldF_nI C.1 0 0 (fun k x _ _ => nI_add x _)
theorem r_whole {C : Cf} {M : Mem} (hC : COk C) (hM : CfR M C) (hT : StR M C) {g : Nat} (hg : g < C.2.1) : f_X11_allStays (nI g) M = some (nI (whl C g), M) := by
  have c1 := hC.1
  have c2 := hC.2.1
  refine (loopF (L := fun n a x => f_X11_allStays_4 n (nI g) a x M) (E := fun a => some (a, M)) (f := fun r a => a + nI (Sy C g r)) (N := C.1) (fun n r a hr => ?_) (fun n a => ?_) C.1 0 FU 0 (Nat.zero_add _) (by show C.1 < 2000; omega)).trans ?_
  · show f_X11_allStays_4 (n + 1) (nI g) a (nI r) M = _
    conv => lhs; unfold f_X11_allStays_4
    rw [hM.1, if_pos (nI_lt hr (by omega)), lm6, nI_add, gd_t (nI_inb (show 6 * g + r < 36 by omega) (by decide)), nI_clamp (by omega), rStay hT hg hr]
    simp only [vl, nI_1]
  · show f_X11_allStays_4 (n + 1) (nI g) a (nI C.1) M = _
    conv => lhs; unfold f_X11_allStays_4
    rw [hM.1, if_neg (nI_nlt (Nat.le_refl _) (by omega))]
  · congr 2
    exact foldF_nI C.1 0 0 (fun k x _ _ => nI_add x _)
theorem c_tog {C : Cf} {M : Mem} (hC : COk C) (hM : CfC M C) (b : Int32) {r : Nat} (hr : r < C.1) : f_X1_togetherIn (nI r) b M = some (nI (tog C (tb b) r), M) := by
  have c1 := hC.1
  have c2 := hC.2.1
  refine (loopF (L := fun n a x => f_X1_togetherIn_5 n (nI r) b a x M) (E := fun a => some (a, M)) (f := fun g a => if tb b g = true then a + nI (Sy C g r) else a) (N := C.2.1) (fun n g a hg => ?_) (fun n a => ?_) C.2.1 0 FU 0 (Nat.zero_add _) (by show C.2.1 < 2000; omega)).trans ?_
  · show f_X1_togetherIn_5 (n + 1) (nI r) b a (nI g) M = _
    conv => lhs; unfold f_X1_togetherIn_5 f_X1_togetherIn_35
    rw [hM.2.1, if_pos (nI_lt hg (by omega)), has_spec, bd_e]
    by_cases h : bit b (nI g)
    · rw [b2i_t h, if_neg (by decide), gd_t (nI_inb (show g < 6 by omega) (by decide)), gd_t (nI_inb (show r < 6 by omega) (by decide)), nI_clamp (by omega), nI_clamp (by omega), cStay hM hg hr]
      simp only [vl, nI_1, if_pos (tb_t.mpr h)]
    · rw [b2i_f h, if_pos rfl]
      simp only [vl, nI_1, if_neg (fun z => h (tb_t.mp z))]
  · show f_X1_togetherIn_5 (n + 1) (nI r) b a (nI C.2.1) M = _
    conv => lhs; unfold f_X1_togetherIn_5
    rw [hM.2.1, if_neg (nI_nlt (Nat.le_refl _) (by omega))]
  · congr 2
    refine foldF_nI C.2.1 0 0 (fun k x _ _ => ?_)
    show (if tb b k = true then nI x + nI (Sy C k r) else nI x) = nI (if tb b k = true then x + Sy C k r else x)
    split
    · exact nI_add x _
    · rfl
theorem r_tog {C : Cf} {M : Mem} (hC : COk C) (hM : CfR M C) (hT : StR M C) (b : Int32) {r : Nat} (hr : r < C.1) : f_X11_roomStays b (nI r) M = some (nI (tog C (tb b) r), M) := by
  have c1 := hC.1
  have c2 := hC.2.1
  refine (loopF (L := fun n a x => f_X11_roomStays_5 n b (nI r) a x M) (E := fun a => some (a, M)) (f := fun g a => if tb b g = true then a + nI (Sy C g r) else a) (N := C.2.1) (fun n g a hg => ?_) (fun n a => ?_) C.2.1 0 FU 0 (Nat.zero_add _) (by show C.2.1 < 2000; omega)).trans ?_
  · show f_X11_roomStays_5 (n + 1) b (nI r) a (nI g) M = _
    conv => lhs; unfold f_X11_roomStays_5 f_X11_roomStays_40
    rw [hM.2.1, if_pos (nI_lt hg (by omega)), mhas_spec, bd_e]
    by_cases h : bit b (nI g)
    · rw [b2i_t h, if_neg (by decide), lm6, nI_add, gd_t (nI_inb (show 6 * g + r < 36 by omega) (by decide)), nI_clamp (by omega), rStay hT hg hr]
      simp only [vl, nI_1, if_pos (tb_t.mpr h)]
    · rw [b2i_f h, if_pos rfl]
      simp only [vl, nI_1, if_neg (fun z => h (tb_t.mp z)), Int32.add_zero]
  · show f_X11_roomStays_5 (n + 1) b (nI r) a (nI C.2.1) M = _
    conv => lhs; unfold f_X11_roomStays_5
    rw [hM.2.1, if_neg (nI_nlt (Nat.le_refl _) (by omega))]
  · congr 2
    refine foldF_nI C.2.1 0 0 (fun k x _ _ => ?_)
    show (if tb b k = true then nI x + nI (Sy C k r) else nI x) = nI (if tb b k = true then x + Sy C k r else x)
    split
    · exact nI_add x _
    · rfl
/-- the first room in which one stays longest: 0 none, else one more -/
def lpS (C : Cf) (g r a : Nat) : Nat := if C.2.2.1 r = true then a else if a = 0 then r + 1 else if Sy C g (a - 1) < Sy C g r then r + 1 else a
theorem lpS_c {C : Cf} {g r a : Nat} (h : C.2.2.1 r = true) : lpS C g r a = a := if_pos h
theorem lpS_0 {C : Cf} {g r a : Nat} (h : ¬ C.2.2.1 r = true) (h0 : a = 0) : lpS C g r a = r + 1 := by unfold lpS; rw [if_neg h, if_pos h0]
theorem lpS_t {C : Cf} {g r a : Nat} (h : ¬ C.2.2.1 r = true) (h0 : ¬ a = 0) (h1 : Sy C g (a - 1) < Sy C g r) : lpS C g r a = r + 1 := by unfold lpS; rw [if_neg h, if_neg h0, if_pos h1]
theorem lpS_k {C : Cf} {g r a : Nat} (h : ¬ C.2.2.1 r = true) (h0 : ¬ a = 0) (h1 : ¬ Sy C g (a - 1) < Sy C g r) : lpS C g r a = a := by unfold lpS; rw [if_neg h, if_neg h0, if_neg h1]
theorem lpS_le {C : Cf} {g r a : Nat} (h : a ≤ r) : lpS C g r a ≤ r + 1 := by
  unfold lpS
  split
  · omega
  · split
    · omega
    · split <;> omega
def lpl (C : Cf) (g : Nat) : Nat := foldF (lpS C g) C.1 0 0
def lst (C : Cf) (g a : Nat) : Nat := if a = 0 then 0 else Sy C g (a - 1)
theorem lp_le (C : Cf) (g : Nat) : ∀ (N : Nat), foldF (lpS C g) N 0 0 ≤ N
  | 0 => Nat.le_refl _
  | N + 1 => by
    rw [foldF_sn]
    exact lpS_le (lp_le C g N)
theorem corC {C : Cf} {M : Mem} (hM : CfC M C) {r : Nat} (hr : r < C.1) : f_X1_isCorridor (nI r) M = some (b2i (C.2.2.1 r = true), M) := by
  rw [isCorridor_spec]
  congr 2
  unfold b2i
  simp only [hM.2.2.1 r hr]
theorem c_long {C : Cf} {M : Mem} (hC : COk C) (hM : CfC M C) {g : Nat} (hg : g < C.2.1) : f_X1_longestPlace (nI g) M = some (pI (lpl C g), M) := by
  have c1 := hC.1
  have c2 := hC.2.1
  have h : wp (f_X1_longestPlace_4 FU (nI g) (-1) 0 M) (fun r M' => r = pI (lpl C g) ∧ M' = M) := by
    refine wp_for (α := Int32) (fun m a x M => f_X1_longestPlace_4 m (nI g) a x M) C.1 (fun k a M1 => M1 = M ∧ a = pI (foldF (lpS C g) k 0 0)) _ (fun m r a M1 hr hJ kk => ?_) (fun m a M1 hJ => ?_) C.1 0 FU (-1) M (by omega) (by show C.1 < 2000; omega) ⟨rfl, by show -1 = pI 0; decide⟩
    · obtain ⟨rfl, j1⟩ := hJ
      have hle := lp_le C g r
      show wp (f_X1_longestPlace_4 (m + 1) (nI g) a (nI r) M1) _
      unfold f_X1_longestPlace_4 f_X1_longestPlace_44 f_X1_longestPlace_46
      rw [hM.1, if_pos (nI_lt hr (by omega)), corC hM hr, bd_e]
      have fs0 := foldF_sn (f := lpS C g) r 0
      by_cases hc : C.2.2.1 r = true
      · rw [b2i_t hc, if_neg (by decide), wp_vl, nI_1]
        exact kk _ M1 ⟨rfl, by rw [fs0, lpS_c hc]; exact j1⟩
      · rw [b2i_f hc, if_pos rfl, j1]
        by_cases h0 : foldF (lpS C g) r 0 0 = 0
        · rw [if_pos ((pI_m1 (by omega)).mpr h0), wp_vl, nI_1]
          exact kk _ M1 ⟨rfl, by rw [fs0, lpS_0 hc h0, pI_s]⟩
        · rw [if_neg (fun z => h0 ((pI_m1 (by omega)).mp z)), pI_p (by omega)]
          simp only [gd_t (nI_inb (show g < 6 by omega) (show 6 ≤ 1000 by decide)), gd_t (nI_inb (show r < 6 by omega) (show 6 ≤ 1000 by decide)), gd_t (nI_inb (show foldF (lpS C g) r 0 0 - 1 < 6 by omega) (show 6 ≤ 1000 by decide))]
          rw [nI_clamp (by omega), nI_clamp (by omega), nI_clamp (by omega), wp_vl, wp_vl, cStay hM hg hr, cStay hM hg (by omega)]
          have b1 := Sy_le hC g r
          have b2 := Sy_le hC g (foldF (lpS C g) r 0 0 - 1)
          by_cases hlt : Sy C g (foldF (lpS C g) r 0 0 - 1) < Sy C g r
          · rw [if_pos (nI_lt hlt (by omega)), wp_vl, nI_1]
            exact kk _ M1 ⟨rfl, by rw [fs0, lpS_t hc h0 hlt, pI_s]⟩
          · rw [if_neg (nI_nlt (by omega) (by omega)), wp_vl, nI_1]
            refine kk _ M1 ⟨rfl, ?_⟩
            rw [fs0, ← pI_p (by omega), lpS_k hc h0 hlt]
    · obtain ⟨rfl, j1⟩ := hJ
      show wp (f_X1_longestPlace_4 (m + 1) (nI g) a (nI C.1) M1) _
      unfold f_X1_longestPlace_4
      rw [hM.1, if_neg (nI_nlt (Nat.le_refl _) (by omega)), wp_s]
      exact ⟨j1, rfl⟩
  obtain ⟨r, M', e, h1, h2⟩ := h
  unfold f_X1_longestPlace f_X1_longestPlace_0
  rw [e, h1, h2]
theorem r_every {C : Cf} {M : Mem} (hC : COk C) (hM : CfR M C) (hT : StR M C) {g : Nat} (hg : g < C.2.1) : wp (f_X11_everyOf (nI g) M) (fun r M' => r = nI (lst C g (lpl C g)) ∧ M' 174 44 = pI (lpl C g) ∧ Fr (fun i k => i = 174 ∧ k = 44) M M') := by
  have c1 := hC.1
  have c2 := hC.2.1
  unfold f_X11_everyOf f_X11_everyOf_0
  rw [wp_ml]
  have e44 : ∀ {M' : Mem}, Fr (fun i k => i = 174 ∧ k = 44) M M' → CfR M' C ∧ StR M' C := fun hF => ⟨hM.eq2 (fun i k z => hF i k (by unfold cHo at z; omega)), StR.eq (funext fun k => hF 187 k (by omega)) hT⟩
  refine wp_for (α := Int32) (fun m a x M => f_X11_everyOf_9 m (nI g) a x M) C.1 (fun k a M1 => a = nI (lst C g (foldF (lpS C g) k 0 0)) ∧ M1 174 44 = pI (foldF (lpS C g) k 0 0) ∧ Fr (fun i k => i = 174 ∧ k = 44) M M1) _ (fun m r a M1 hr hJ kk => ?_) (fun m a M1 hJ => ?_) C.1 0 FU 0 _ (by omega) (by show C.1 < 2000; omega) ⟨rfl, by rw [up_self]; show -1 = pI 0; decide, Fr.up (S := fun i k => i = 174 ∧ k = 44) Fr.rf ⟨rfl, rfl⟩⟩
  · obtain ⟨j1, j2, j3⟩ := hJ
    obtain ⟨m1, t1⟩ := e44 j3
    have hle := lp_le C g r
    have b1 := Sy_le hC g r
    have fs0 := foldF_sn (f := lpS C g) r 0
    show wp (f_X11_everyOf_9 (m + 1) (nI g) a (nI r) M1) _
    unfold f_X11_everyOf_9 f_X11_everyOf_52 f_X11_everyOf_69
    rw [m1.1, if_pos (nI_lt hr (by omega)), gd_t (nI_inb (show r < 6 by omega) (by decide)), nI_clamp (show r < 2 ^ 31 by omega), m1.2.2.1 r hr]
    have take : foldF (lpS C g) (r + 1) 0 0 = r + 1 → wp (gd (0 ≤ (6 * nI g) + nI r ∧ ((6 * nI g) + nI r).toNatClampNeg < 36) (vl (M1 187 ((6 * nI g) + nI r).toNatClampNeg) fun v8 => ml (up M1 174 44 (nI r)) fun M9 => vl (nI r + 1) fun v5 => f_X11_everyOf_9 m (nI g) v8 v5 M9)) (fun r M' => r = nI (lst C g (lpl C g)) ∧ M' 174 44 = pI (lpl C g) ∧ Fr (fun i k => i = 174 ∧ k = 44) M M') := by
      intro he
      rw [lm6, nI_add, gd_t (nI_inb (show 6 * g + r < 36 by omega) (by decide)), nI_clamp (by omega), wp_vl, wp_ml, wp_vl, nI_1, rStay t1 hg hr]
      refine kk _ _ ⟨?_, ?_, j3.up ⟨rfl, rfl⟩⟩
      · rw [he]; unfold lst; rw [if_neg (by omega)]; rfl
      · rw [up_self, he, pI_s]
    have keep : foldF (lpS C g) (r + 1) 0 0 = foldF (lpS C g) r 0 0 → wp (vl (nI r + 1) fun v5 => f_X11_everyOf_9 m (nI g) a v5 M1) (fun r M' => r = nI (lst C g (lpl C g)) ∧ M' 174 44 = pI (lpl C g) ∧ Fr (fun i k => i = 174 ∧ k = 44) M M') := by
      intro he
      rw [wp_vl, nI_1]
      exact kk _ _ ⟨by rw [he]; exact j1, by rw [he]; exact j2, j3⟩
    by_cases hc : C.2.2.1 r = true
    · rw [b2i_t hc, if_neg (by decide)]
      exact keep (by rw [fs0, lpS_c hc])
    · rw [b2i_f hc, if_pos rfl, j2]
      by_cases h0 : foldF (lpS C g) r 0 0 = 0
      · rw [if_pos ((pI_m1 (by omega)).mpr h0)]
        exact take (by rw [fs0, lpS_0 hc h0])
      · rw [if_neg (fun z => h0 ((pI_m1 (by omega)).mp z)), j1]
        have b2 := Sy_le hC g (foldF (lpS C g) r 0 0 - 1)
        have el : lst C g (foldF (lpS C g) r 0 0) = Sy C g (foldF (lpS C g) r 0 0 - 1) := if_neg h0
        have e6 : (6 : Int32) * nI g + nI r = nI (6 * g + r) := by rw [lm6, nI_add]
        have e187 : M1 187 (nI (6 * g + r)).toNatClampNeg = nI (Sy C g r) := by rw [nI_clamp (by omega)]; exact rStay t1 hg hr
        by_cases hlt : Sy C g (foldF (lpS C g) r 0 0 - 1) < Sy C g r
        · have ht := take (by rw [fs0, lpS_t hc h0 hlt])
          rw [e6] at ht ⊢
          rw [gd_t (nI_inb (show 6 * g + r < 36 by omega) (by decide)), e187, el, if_pos (nI_lt hlt (by omega))]
          rw [e187] at ht
          exact ht
        · have ht := keep (by rw [fs0, lpS_k hc h0 hlt])
          rw [j1] at ht
          rw [e6, gd_t (nI_inb (show 6 * g + r < 36 by omega) (by decide)), e187, el, if_neg (nI_nlt (by omega) (by omega))]
          rw [el] at ht
          exact ht
  · obtain ⟨j1, j2, j3⟩ := hJ
    show wp (f_X11_everyOf_9 (m + 1) (nI g) a (nI C.1) M1) _
    unfold f_X11_everyOf_9
    rw [(e44 j3).1.1, if_neg (nI_nlt (Nat.le_refl _) (by omega)), wp_s]
    exact ⟨j1, j2, j3⟩
