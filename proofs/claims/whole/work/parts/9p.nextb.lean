/-! orders, one behind another: the class -/
theorem swap_cls {q : Nat} {M : Mem} {l : List Nat} (h : OrC q M l) {i j : Nat} (hi : i < l.length) (hj : j < l.length) : wp (f_X5_swap q (nI i) (nI j) M) (fun _ M' => OrC q M' (sw l i j) ∧ Fr (fun x _ => x = q + 1) M M') := by
  have h6 := h.1
  unfold f_X5_swap f_X5_swap_0
  rw [gd_t (nI_inb (show i < 6 by omega) (by decide)), wp_vl, gd_t (nI_inb (show j < 6 by omega) (by decide)), gd_t (nI_inb (show i < 6 by omega) (by decide)), wp_ml, gd_t (nI_inb (show j < 6 by omega) (by decide)), wp_ml, wp_s, nI_clamp (show i < 2 ^ 31 by omega), nI_clamp (show j < 2 ^ 31 by omega)]
  refine ⟨⟨by rw [sw_len]; exact h6, ?_, ?_⟩, Fr.up (S := fun x _ => x = q + 1) (Fr.up (S := fun x _ => x = q + 1) Fr.rf rfl) rfl⟩
  · rw [up_row _ _ _ (by omega), up_row _ _ _ (by omega), sw_len]; exact h.2.1
  · rw [upS, upS]
    exact Ar_sw h.2.2 hi hj
theorem rev_cls {q : Nat} {x1 : Int32} : ∀ (f n lo hi : Nat) (M : Mem) (l : List Nat), OrC q M l → lo ≤ hi + 1 → hi < l.length → hi ≤ lo + 2 * f → f < n → wp (f_X5_turnToNext_93 q n x1 (nI lo) (nI hi) M) (fun r M' => r = x1 ∧ OrC q M' (rvq f l lo hi) ∧ Fr (fun x _ => x = q + 1) M M')
  | 0, n + 1, lo, hi, M, l, h, hlo, hh, hf, _ => by
    have h6 := h.1
    unfold f_X5_turnToNext_93
    rw [if_neg (nI_nlt (by omega) (by omega)), wp_s]
    exact ⟨rfl, h, Fr.rf⟩
  | f + 1, n + 1, lo, hi, M, l, h, hlo, hh, hf, hn => by
    have h6 := h.1
    unfold f_X5_turnToNext_93 rvq
    by_cases z : lo < hi
    · rw [if_pos (nI_lt z (by omega)), if_pos z, wp_bd]
      refine wp_mono (swap_cls h (by omega) hh) (fun _ M1 w => ?_)
      rw [wp_vl, wp_vl, nI_1, addm1, nI_sub1 (by omega)]
      exact wp_mono (rev_cls f n (lo + 1) (hi - 1) M1 (sw l lo hi) w.1 (by omega) (by rw [sw_len]; omega) (by omega) (by omega)) (fun r M' y => ⟨y.1, y.2.1, w.2.tr y.2.2⟩)
    · rw [if_neg (nI_nlt (by omega) (by omega)), if_neg z, wp_s]
      exact ⟨rfl, h, Fr.rf⟩
theorem t75_cls {q : Nat} {M : Mem} {l : List Nat} (h : OrC q M l) {p k : Nat} (hp : p < l.length) (hk : k < l.length) : wp (f_X5_turnToNext_75 q (nI p) (nI k) M) (fun r M' => r = nI p ∧ OrC q M' (rvq 6 (sw l p k) (p + 1) (l.length - 1)) ∧ Fr (fun x _ => x = q + 1) M M') := by
  have h6 := h.1
  unfold f_X5_turnToNext_75
  rw [wp_bd]
  refine wp_mono (swap_cls h hp hk) (fun _ M1 w => ?_)
  rw [wp_vl, wp_vl, nI_1, w.1.2.1, sw_len, nI_sub1 (by omega)]
  exact wp_mono (rev_cls 6 FU (p + 1) (l.length - 1) M1 (sw l p k) w.1 (by omega) (by rw [sw_len]; omega) (by omega) (by decide)) (fun r M' y => ⟨y.1, y.2.1, w.2.tr y.2.2⟩)
theorem t47_cls {q : Nat} {M : Mem} {l : List Nat} {Q : Int32 → Mem → Prop} (h : OrC q M l) (hl : ∀ g, g ∈ l → g < 6) {p : Nat} (hQ : wp (f_X5_turnToNext_75 q (nI p) (nI (nxq l p (l.length - 1))) M) Q) : ∀ (k n : Nat), nxq l p k = nxq l p (l.length - 1) → p + 1 ≤ k → k < l.length → k < n → wp (f_X5_turnToNext_47 q n (nI p) (nI k) M) Q
  | 0, n, _, h1, _, _ => by omega
  | k + 1, n + 1, he, h1, h2, h3 => by
    have h6 := h.1
    have a1 := hl _ (ga_mem h2)
    have a2 := hl _ (ga_mem (show p < l.length by omega))
    have f1 : M (q + 1) (k + 1) = nI (ga l (k + 1)) := Ar_ga h.2.2 h2
    have f2 : M (q + 1) p = nI (ga l p) := Ar_ga h.2.2 (show p < l.length by omega)
    unfold f_X5_turnToNext_47
    rw [nI_1 p]
    by_cases z : p + 1 < k + 1
    · rw [if_pos (nI_lt z (by omega)), gd_t (nI_inb (show k + 1 < 6 by omega) (by decide)), gd_t (nI_inb (show p < 6 by omega) (by decide)), nI_clamp (show k + 1 < 2 ^ 31 by omega), nI_clamp (show p < 2 ^ 31 by omega), f1, f2]
      by_cases y : ga l (k + 1) < ga l p
      · rw [if_pos (nI_lt y (by omega)), wp_vl, addm1, nI_sub1 (by omega)]
        have e : nxq l p (k + 1) = nxq l p k := by
          conv => lhs; unfold nxq
          rw [if_pos ⟨z, y⟩]
        exact t47_cls h hl hQ k n (e.symm.trans he) (by omega) (by omega) (by omega)
      · rw [if_neg (nI_nlt (by omega) (by omega))]
        have e : nxq l p (k + 1) = k + 1 := by
          conv => lhs; unfold nxq
          rw [if_neg (fun w => y w.2)]
        rw [← he, e] at hQ
        exact hQ
    · rw [if_neg (nI_nlt (by omega) (by omega))]
      have e : nxq l p (k + 1) = k + 1 := by
        conv => lhs; unfold nxq
        rw [if_neg (fun w => z w.1)]
      rw [← he, e] at hQ
      exact hQ
def NxP (M : Mem) (Or : Mem → List Nat → Prop) (F : Nat → Nat → Prop) (l : List Nat) (no : Int32) (yes : Nat → Int32) (r : Int32) (M' : Mem) : Prop := (nxo l = none ∧ r = no ∧ M' = M) ∨ ∃ p l', nxo l = some (p, l') ∧ r = yes p ∧ Or M' l' ∧ Fr F M M'
theorem t7_cls {q : Nat} {M : Mem} {l : List Nat} (h : OrC q M l) (hl : ∀ g, g ∈ l → g < 6) : ∀ (k n : Nat), plc l k = plc l (l.length - 1) → k < l.length → k < n → wp (f_X5_turnToNext_7 q n (pI k) M) (NxP M (OrC q) (fun x _ => x = q + 1) l (-1) nI)
  | 0, n + 1, he, h2, _ => by
    unfold f_X5_turnToNext_7
    rw [pI_0, if_pos (by decide)]
    unfold f_X5_turnToNext_34
    rw [if_pos (by decide), wp_s]
    refine Or.inl ⟨?_, rfl, rfl⟩
    unfold nxo
    rw [← he]; rfl
  | k + 1, n + 1, he, h2, h3 => by
    have h6 := h.1
    have a1 := hl _ (ga_mem h2)
    have a2 := hl _ (ga_mem (show k < l.length by omega))
    have f1 : M (q + 1) (k + 1) = nI (ga l (k + 1)) := Ar_ga h.2.2 h2
    have f2 : M (q + 1) k = nI (ga l k) := Ar_ga h.2.2 (show k < l.length by omega)
    unfold f_X5_turnToNext_7
    rw [pI_s, if_neg (nI_pos (by omega)), gd_t (nI_inb (show k < 6 by omega) (by decide)), nI_1, gd_t (nI_inb (show k + 1 < 6 by omega) (by decide)), nI_clamp (show k + 1 < 2 ^ 31 by omega), nI_clamp (show k < 2 ^ 31 by omega), f1, f2]
    by_cases y : ga l (k + 1) < ga l k
    · rw [if_pos (nI_lt y (by omega)), wp_vl, addm1]
      have e : plc l (k + 1) = plc l k := by
        conv => lhs; unfold plc
        rw [if_pos y]
      exact t7_cls h hl k n (e.symm.trans he) (by omega) (by omega)
    · rw [if_neg (nI_nlt (by omega) (by omega))]
      have e : plc l (k + 1) = some k := by
        conv => lhs; unfold plc
        rw [if_neg y]
      unfold f_X5_turnToNext_34
      rw [if_neg (nI_pos (by omega)), wp_vl, h.2.1, nI_sub1 (by omega)]
      have hn := nxq_ok (l := l) (p := k) (k := l.length - 1) (by omega)
      refine t47_cls h hl (wp_mono (t75_cls h (show k < l.length by omega) (show nxq l k (l.length - 1) < l.length by omega)) (fun r M' w => ?_)) (l.length - 1) FU rfl (by omega) (by omega) (by show l.length - 1 < 2000; omega)
      refine Or.inr ⟨k, _, ?_, w.1, w.2.1, w.2.2⟩
      unfold nxo
      rw [← he, e]
theorem turn_cls {q : Nat} {M : Mem} {l : List Nat} (h : OrC q M l) (hl : ∀ g, g ∈ l → g < 6) (hne : 0 < l.length) : wp (f_X5_turnToNext q M) (NxP M (OrC q) (fun x _ => x = q + 1) l (-1) nI) := by
  have h6 := h.1
  unfold f_X5_turnToNext f_X5_turnToNext_0
  rw [wp_vl, h.2.1]
  have e : nI l.length - 2 = pI (l.length - 1) := by
    rw [← Int32.toInt_inj, pI_toInt (by omega)]
    have key : ∀ n, n < 7 → 0 < n → (nI n - 2).toInt = ((n - 1 : Nat) : Int) - 1 := by decide
    exact key l.length (by omega) hne
  rw [e]
  exact t7_cls h hl (l.length - 1) FU rfl (by omega) (by show l.length - 1 < 2000; omega)
theorem begin5 {q : Nat} {p : Nat → Bool} : ∀ (m k n : Nat) (M : Mem), k + m = 6 → m < n → OrC q M (fl p k) → wp (f_X5_begin_7 q n (bI p) (nI k) M) (fun _ M' => OrC q M' (fl p 6) ∧ Fr (fun i j => (i = q ∧ j = 1) ∨ i = q + 1) M M')
  | 0, k, n + 1, M, he, _, h => by
    have : k = 6 := by omega
    subst this
    unfold f_X5_begin_7
    rw [if_neg (show ¬ nI 6 < 6 by decide), wp_s]
    exact ⟨h, Fr.rf⟩
  | m + 1, k, n + 1, M, he, hn, h => by
    have hlen := fl_len p k
    have hb : bit (bI p) (nI k) ↔ p k = true := by rw [bit_bI p (by omega)]; exact ⟨fun z => z.2, fun z => ⟨by omega, z⟩⟩
    unfold f_X5_begin_7
    rw [if_pos (show nI k < 6 from nI_lt (b := 6) (by omega) (by decide)), has_spec, bd_e]
    by_cases z : p k = true
    · rw [b2i_t (hb.mpr z), if_neg (by decide), h.2.1, gd_t (nI_inb (show (fl p k).length < 6 by omega) (by decide)), nI_clamp (by omega), wp_ml, wp_ml, up_row _ _ _ (by omega), h.2.1, nI_1]
      unfold f_X5_begin_41
      rw [wp_vl, nI_1]
      refine wp_mono (begin5 m (k + 1) n _ (by omega) (by omega) ?_) (fun r M' w => ⟨w.1, ((Fr.rf.up (Or.inr rfl)).up (Or.inl ⟨rfl, rfl⟩)).tr w.2⟩)
      rw [fl_s, if_pos z]
      refine ⟨by rw [List.length_append, List.length_singleton]; omega, by rw [up_self, List.length_append, List.length_singleton], ?_⟩
      rw [up_row _ _ _ (by omega), upS]
      exact Ar_snoc h.2.2 k
    · rw [b2i_f (fun w => z (hb.mp w)), if_pos rfl]
      unfold f_X5_begin_41
      rw [wp_vl, nI_1]
      refine begin5 m (k + 1) n M (by omega) (by omega) ?_
      rw [fl_s, if_neg z]
      exact h
theorem beg_cls {q : Nat} {M : Mem} {p : Nat → Bool} : wp (f_X5_begin q (bI p) M) (fun _ M' => OrC q M' (fl p 6) ∧ Fr (fun i j => (i = q ∧ j = 1) ∨ i = q + 1) M M') := by
  unfold f_X5_begin f_X5_begin_0
  rw [wp_ml]
  refine wp_mono (begin5 6 0 FU _ rfl (by decide) ⟨Nat.zero_le _, up_self _ _ _ _, fun k g e => by cases e⟩) (fun r M' w => ⟨w.1, (Fr.rf.up (Or.inl ⟨rfl, rfl⟩)).tr w.2⟩)
theorem copy_ord {M : Mem} {l : List Nat} (h : OrC 124 M l) : wp (f_X5_copy 126 124 M) (fun _ M' => OrC 126 M' l ∧ Fr (fun i _ => i = 126 ∨ i = 127) M M') := by
  have h6 := h.1
  unfold f_X5_copy f_X5_copy_0
  rw [wp_ml, gdc, wp_ml, wp_s]
  refine ⟨⟨h6, ?_, fun k g e => ?_⟩, (Fr.rf.up (Or.inl rfl)).cp (fun k => Or.inr rfl)⟩
  · rw [cp_row _ _ _ _ _ (by decide), up_self, h.2.1]
  · have hk : k < l.length := by
      apply Classical.byContradiction
      intro z
      rw [List.getElem?_eq_none (by omega)] at e; cases e
    rw [cp_in _ _ _ (by omega), up_row _ _ _ (by decide)]
    exact h.2.2 k g e
/-! the reference -/
def noS : Nat → Nat → Prop := fun i _ => i = 192
theorem swap_ref {M : Mem} {l : List Nat} (h : OrR M l) {i j : Nat} (hi : i < l.length) (hj : j < l.length) : wp (f_X11_swapOrder (nI i) (nI j) M) (fun _ M' => OrR M' (sw l i j) ∧ Fr noS M M') := by
  have h6 := h.1
  unfold f_X11_swapOrder f_X11_swapOrder_0
  rw [gd_t (nI_inb (show i < 6 by omega) (by decide)), wp_vl, gd_t (nI_inb (show j < 6 by omega) (by decide)), gd_t (nI_inb (show i < 6 by omega) (by decide)), wp_ml, gd_t (nI_inb (show j < 6 by omega) (by decide)), wp_ml, wp_s, nI_clamp (show i < 2 ^ 31 by omega), nI_clamp (show j < 2 ^ 31 by omega)]
  refine ⟨⟨by rw [sw_len]; exact h6, ?_, ?_⟩, Fr.up (S := noS) (Fr.up (S := noS) Fr.rf rfl) rfl⟩
  · rw [up_row _ _ _ (by omega), up_row _ _ _ (by omega), sw_len]; exact h.2.1
  · rw [upS, upS]
    exact Ar_sw h.2.2 hi hj
theorem rev_ref : ∀ (f n lo hi : Nat) (M : Mem) (l : List Nat), OrR M l → lo ≤ hi + 1 → hi < l.length → hi ≤ lo + 2 * f → f < n → wp (f_X11_nextOrder_86 n (nI lo) (nI hi) M) (fun r M' => r = 1 ∧ OrR M' (rvq f l lo hi) ∧ Fr noS M M')
  | 0, n + 1, lo, hi, M, l, h, hlo, hh, hf, _ => by
    have h6 := h.1
    unfold f_X11_nextOrder_86
    rw [if_neg (nI_nlt (by omega) (by omega)), wp_s]
    exact ⟨rfl, h, Fr.rf⟩
  | f + 1, n + 1, lo, hi, M, l, h, hlo, hh, hf, hn => by
    have h6 := h.1
    unfold f_X11_nextOrder_86 rvq
    by_cases z : lo < hi
    · rw [if_pos (nI_lt z (by omega)), if_pos z, wp_bd]
      refine wp_mono (swap_ref h (by omega) hh) (fun _ M1 w => ?_)
      rw [wp_vl, wp_vl, nI_1, addm1, nI_sub1 (by omega)]
      exact wp_mono (rev_ref f n (lo + 1) (hi - 1) M1 (sw l lo hi) w.1 (by omega) (by rw [sw_len]; omega) (by omega) (by omega)) (fun r M' y => ⟨y.1, y.2.1, w.2.tr y.2.2⟩)
    · rw [if_neg (nI_nlt (by omega) (by omega)), if_neg z, wp_s]
      exact ⟨rfl, h, Fr.rf⟩
theorem t47_ref {M : Mem} {l : List Nat} (h : OrR M l) (hl : ∀ g, g ∈ l → g < 6) {p : Nat} (hp : ¬ ga l (p + 1) < ga l p) : ∀ (k n : Nat), nxq l p k = nxq l p (l.length - 1) → p + 1 ≤ k → k < l.length → k < n → wp (f_X11_nextOrder_47 n (nI p) (nI k) M) (fun r M' => r = 1 ∧ OrR M' (rvq 6 (sw l p (nxq l p (l.length - 1))) (p + 1) (l.length - 1)) ∧ Fr noS M M')
  | 0, n, _, h1, _, _ => by omega
  | k + 1, n + 1, he, h1, h2, h3 => by
    have h6 := h.1
    have a1 := hl _ (ga_mem h2)
    have a2 := hl _ (ga_mem (show p < l.length by omega))
    have f1 : M 192 (k + 1) = nI (ga l (k + 1)) := Ar_ga h.2.2 h2
    have f2 : M 192 p = nI (ga l p) := Ar_ga h.2.2 (show p < l.length by omega)
    unfold f_X11_nextOrder_47
    rw [gd_t (nI_inb (show k + 1 < 6 by omega) (by decide)), gd_t (nI_inb (show p < 6 by omega) (by decide)), nI_clamp (show k + 1 < 2 ^ 31 by omega), nI_clamp (show p < 2 ^ 31 by omega), f1, f2]
    by_cases y : ga l (k + 1) < ga l p
    · rw [if_pos (nI_lt y (by omega)), wp_vl, addm1, nI_sub1 (by omega)]
      have z : p + 1 < k + 1 := by
        apply Classical.byContradiction
        intro w
        have : k = p := by omega
        subst this
        exact hp y
      have e : nxq l p (k + 1) = nxq l p k := by
        conv => lhs; unfold nxq
        rw [if_pos ⟨z, y⟩]
      exact t47_ref h hl hp k n (e.symm.trans he) (by omega) (by omega) (by omega)
    · rw [if_neg (nI_nlt (by omega) (by omega)), wp_bd]
      have e : nxq l p (k + 1) = k + 1 := by
        conv => lhs; unfold nxq
        rw [if_neg (fun w => y w.2)]
      rw [← he, e]
      refine wp_mono (swap_ref h (show p < l.length by omega) h2) (fun _ M1 w => ?_)
      rw [wp_vl, wp_vl, nI_1, w.1.2.1, sw_len, nI_sub1 (by omega)]
      exact wp_mono (rev_ref 6 FU (p + 1) (l.length - 1) M1 (sw l p (k + 1)) w.1 (by omega) (by rw [sw_len]; omega) (by omega) (by decide)) (fun r M' y => ⟨y.1, y.2.1, w.2.tr y.2.2⟩)
theorem t7_ref {M : Mem} {l : List Nat} (h : OrR M l) (hl : ∀ g, g ∈ l → g < 6) : ∀ (k n : Nat), plc l k = plc l (l.length - 1) → k < l.length → k < n → wp (f_X11_nextOrder_7 n (pI k) M) (NxP M OrR noS l 0 (fun _ => 1))
  | 0, n + 1, he, h2, _ => by
    unfold f_X11_nextOrder_7
    rw [pI_0, if_pos (by decide)]
    unfold f_X11_nextOrder_34
    rw [if_pos (by decide), wp_s]
    refine Or.inl ⟨?_, rfl, rfl⟩
    unfold nxo
    rw [← he]; rfl
  | k + 1, n + 1, he, h2, h3 => by
    have h6 := h.1
    have a1 := hl _ (ga_mem h2)
    have a2 := hl _ (ga_mem (show k < l.length by omega))
    have f1 : M 192 (k + 1) = nI (ga l (k + 1)) := Ar_ga h.2.2 h2
    have f2 : M 192 k = nI (ga l k) := Ar_ga h.2.2 (show k < l.length by omega)
    unfold f_X11_nextOrder_7
    rw [pI_s, if_neg (nI_pos (by omega)), gd_t (nI_inb (show k < 6 by omega) (by decide)), nI_1, gd_t (nI_inb (show k + 1 < 6 by omega) (by decide)), nI_clamp (show k + 1 < 2 ^ 31 by omega), nI_clamp (show k < 2 ^ 31 by omega), f1, f2]
    by_cases y : ga l (k + 1) < ga l k
    · rw [if_pos (nI_lt y (by omega)), wp_vl, addm1]
      have e : plc l (k + 1) = plc l k := by
        conv => lhs; unfold plc
        rw [if_pos y]
      exact t7_ref h hl k n (e.symm.trans he) (by omega) (by omega)
    · rw [if_neg (nI_nlt (by omega) (by omega))]
      have e : plc l (k + 1) = some k := by
        conv => lhs; unfold plc
        rw [if_neg y]
      unfold f_X11_nextOrder_34
      rw [if_neg (nI_pos (by omega)), wp_vl, h.2.1, nI_sub1 (by omega)]
      refine wp_mono (t47_ref h hl y (l.length - 1) FU rfl (by omega) (by omega) (by show l.length - 1 < 2000; omega)) (fun r M' w => ?_)
      refine Or.inr ⟨k, _, ?_, w.1, w.2.1, w.2.2⟩
      unfold nxo
      rw [← he, e]
theorem turn_ref {M : Mem} {l : List Nat} (h : OrR M l) (hl : ∀ g, g ∈ l → g < 6) (hne : 0 < l.length) : wp (f_X11_nextOrder M) (NxP M OrR noS l 0 (fun _ => 1)) := by
  have h6 := h.1
  unfold f_X11_nextOrder f_X11_nextOrder_0
  rw [wp_vl, h.2.1]
  have e : nI l.length - 2 = pI (l.length - 1) := by
    rw [← Int32.toInt_inj, pI_toInt (by omega)]
    have key : ∀ n, n < 7 → 0 < n → (nI n - 2).toInt = ((n - 1 : Nat) : Int) - 1 := by decide
    exact key l.length (by omega) hne
  rw [e]
  exact t7_ref h hl (l.length - 1) FU rfl (by omega) (by show l.length - 1 < 2000; omega)
def foS : Nat → Nat → Prop := fun i j => (i = 174 ∧ j = 37) ∨ i = 192
theorem first5 {p : Nat → Bool} {c : Nat} (hc : c ≤ 6) : ∀ (m k n : Nat) (M : Mem), k + m = c → m < n → M 174 3 = nI c → OrR M (fl p k) → wp (f_X11_firstOrder_7 n (bI p) (nI k) M) (fun _ M' => OrR M' (fl p c) ∧ Fr foS M M')
  | 0, k, n + 1, M, he, _, h3, h => by
    have : k = c := by omega
    subst this
    unfold f_X11_firstOrder_7
    rw [h3, if_neg (nI_nlt (Nat.le_refl _) (by omega)), wp_s]
    exact ⟨h, Fr.rf⟩
  | m + 1, k, n + 1, M, he, hn, h3, h => by
    have hlen := fl_len p k
    have hb : bit (bI p) (nI k) ↔ p k = true := by rw [bit_bI p (by omega)]; exact ⟨fun z => z.2, fun z => ⟨by omega, z⟩⟩
    unfold f_X11_firstOrder_7
    rw [h3, if_pos (nI_lt (by omega) (by omega)), mhas_spec, bd_e]
    by_cases z : p k = true
    · rw [b2i_t (hb.mpr z), if_neg (by decide), h.2.1, gd_t (nI_inb (show (fl p k).length < 6 by omega) (by decide)), nI_clamp (by omega), wp_ml, wp_ml, up_row _ _ _ (by omega), h.2.1, nI_1]
      unfold f_X11_firstOrder_46
      rw [wp_vl, nI_1]
      refine wp_mono (first5 hc m (k + 1) n _ (by omega) (by omega) (by rw [up_col _ _ _ (by decide), up_row _ _ _ (by decide)]; exact h3) ?_) (fun r M' w => ⟨w.1, ((Fr.rf.up (Or.inr rfl)).up (Or.inl ⟨rfl, rfl⟩)).tr w.2⟩)
      rw [fl_s, if_pos z]
      refine ⟨by rw [List.length_append, List.length_singleton]; omega, by rw [up_self, List.length_append, List.length_singleton], ?_⟩
      rw [up_row _ _ _ (by omega), upS]
      exact Ar_snoc h.2.2 k
    · rw [b2i_f (fun w => z (hb.mp w)), if_pos rfl]
      unfold f_X11_firstOrder_46
      rw [wp_vl, nI_1]
      refine first5 hc m (k + 1) n M (by omega) (by omega) h3 ?_
      rw [fl_s, if_neg z]
      exact h
theorem fl_hi {p : Nat → Bool} {c : Nat} (hp : ∀ g, c ≤ g → p g = false) : ∀ (k : Nat), fl p (c + k) = fl p c
  | 0 => rfl
  | k + 1 => by
    rw [show c + (k + 1) = (c + k) + 1 by omega, fl_s, if_neg (by rw [hp (c + k) (by omega)]; decide)]
    exact fl_hi hp k
theorem beg_ref {M : Mem} {C : Cf} {p : Nat → Bool} (hC : COk C) (hM : CfR M C) (hp : ∀ g, C.2.1 ≤ g → p g = false) : wp (f_X11_firstOrder (bI p) M) (fun _ M' => OrR M' (fl p 6) ∧ Fr foS M M') := by
  have c2 := hC.2.1
  unfold f_X11_firstOrder f_X11_firstOrder_0
  rw [wp_ml]
  have e : fl p 6 = fl p C.2.1 := by
    have := fl_hi hp (6 - C.2.1)
    rw [show C.2.1 + (6 - C.2.1) = 6 by omega] at this
    exact this
  rw [e]
  refine wp_mono (first5 c2 C.2.1 0 FU _ (by omega) (by show C.2.1 < 2000; omega) (by rw [up_col _ _ _ (by decide)]; exact hM.2.1) ⟨Nat.zero_le _, up_self _ _ _ _, fun k g e => by cases e⟩) (fun r M' w => ⟨w.1, (Fr.rf.up (Or.inl ⟨rfl, rfl⟩)).tr w.2⟩)
