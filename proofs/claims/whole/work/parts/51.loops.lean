/-! loops as folds -/
def foldF {α : Type} (f : Nat → α → α) : Nat → Nat → α → α
  | 0, _, a => a
  | n + 1, g, a => foldF f n (g + 1) (f g a)
theorem loopF {α γ : Type} {L : Nat → α → Int32 → Option γ} {E : α → Option γ} {f : Nat → α → α} {N : Nat} (hs : ∀ (n g : Nat) (a : α), g < N → L (n + 1) a (nI g) = L n (f g a) (nI (g + 1))) (he : ∀ (n : Nat) (a : α), L (n + 1) a (nI N) = E a) : ∀ (m g n : Nat) (a : α), g + m = N → m < n → L n a (nI g) = E (foldF f m g a)
  | 0, g, n + 1, a, h, _ => by
    rw [show g = N by omega]
    exact he n a
  | m + 1, g, n + 1, a, h, hn => by
    rw [hs n g a (by omega)]
    exact loopF hs he m (g + 1) n (f g a) (by omega) (by omega)
def obit (g : Nat) (acc : Int32) : Int32 := acc ||| (1 <<< (nI g &&& 31))
theorem nI_6 : nI 6 = 6 := by decide
theorem n00 : nI 0 = 0 := by decide
theorem inN {g N : Nat} (h : g < N) (hN : N ≤ 1000) : (0 ≤ nI g ∧ (nI g).toNatClampNeg < N) = True := eq_true (nI_inb h hN)
theorem or0 (x : Int32) : x ||| 0 = x := by simp
def insP (v : Int32) : Prop := ¬ v = -1 ∧ ¬ v = 9
theorem bitsInside_spec (s : Nat) (M : Mem) : f_X7_bitsInside s M = some (foldF (fun g a => if M (s + 1) g = -1 then a else if M (s + 1) g = 9 then a else obit g a) 6 0 0, M) := by
  refine loopF (L := fun n a x => f_X7_bitsInside_4 s n a x M) (E := fun a => some (a, M)) (N := 6) (fun n g a hg => ?_) (fun n a => ?_) 6 0 FU 0 rfl (by decide)
  · show f_X7_bitsInside_4 s (n + 1) a (nI g) M = _
    conv => lhs; unfold f_X7_bitsInside_4
    rw [← nI_6, if_pos (nI_lt hg (by decide))]
    simp only [gd_t (nI_inb hg (show 6 ≤ 1000 by decide))]
    simp only [nI_clamp (show g < 2 ^ 31 by omega), f_X7_bitsInside_37, vl, nI_1, obit]
    split
    · rfl
    · split <;> rfl
  · show f_X7_bitsInside_4 s (n + 1) a (nI 6) M = _
    conv => lhs; unfold f_X7_bitsInside_4
    rw [← nI_6, if_neg (nI_nlt (Nat.le_refl 6) (by decide))]
theorem waitedBy_spec (s : Nat) (b : Int32) (M : Mem) : f_X7_waitedBy s b M = some (foldF (fun g a => if bit b (nI g) then a + M (s + 3) g else a) 6 0 0, M) := by
  refine loopF (L := fun n a x => f_X7_waitedBy_4 s n b a x M) (E := fun a => some (a, M)) (N := 6) (fun n g a hg => ?_) (fun n a => ?_) 6 0 FU 0 rfl (by decide)
  · show f_X7_waitedBy_4 s (n + 1) b a (nI g) M = _
    conv => lhs; unfold f_X7_waitedBy_4
    rw [← nI_6, if_pos (nI_lt hg (by decide)), has_spec]
    by_cases hb : bit b (nI g)
    · simp only [bd, gd_t (nI_inb hg (show 6 ≤ 1000 by decide)), b2i_t hb]
      simp only [nI_clamp (show g < 2 ^ 31 by omega), if_pos hb, f_X7_waitedBy_27, vl, nI_1]
      rfl
    · simp only [bd, b2i_f hb, if_neg hb, f_X7_waitedBy_27, vl, nI_1]
      rfl
  · show f_X7_waitedBy_4 s (n + 1) b a (nI 6) M = _
    conv => lhs; unfold f_X7_waitedBy_4
    rw [← nI_6, if_neg (nI_nlt (Nat.le_refl 6) (by decide))]
theorem lastThrough_spec (s : Nat) (b : Int32) (M : Mem) : f_X7_lastThrough s b M = some (foldF (fun g a => if bit b (nI g) then (if a < M (s + 4) g then M (s + 4) g else a) else a) 6 0 (-1), M) := by
  refine loopF (L := fun n a x => f_X7_lastThrough_4 s n b a x M) (E := fun a => some (a, M)) (N := 6) (fun n g a hg => ?_) (fun n a => ?_) 6 0 FU (-1) rfl (by decide)
  · show f_X7_lastThrough_4 s (n + 1) b a (nI g) M = _
    conv => lhs; unfold f_X7_lastThrough_4
    rw [← nI_6, if_pos (nI_lt hg (by decide)), has_spec]
    by_cases hb : bit b (nI g)
    · simp only [bd, gd_t (nI_inb hg (show 6 ≤ 1000 by decide)), b2i_t hb]
      simp only [nI_clamp (show g < 2 ^ 31 by omega), if_pos hb, f_X7_lastThrough_29, vl, nI_1]
      rfl
    · simp only [bd, b2i_f hb, if_neg hb, f_X7_lastThrough_29, vl, nI_1]
      rfl
  · show f_X7_lastThrough_4 s (n + 1) b a (nI 6) M = _
    conv => lhs; unfold f_X7_lastThrough_4
    rw [← nI_6, if_neg (nI_nlt (Nat.le_refl 6) (by decide))]
theorem misInside_spec (a g : Nat) (M : Mem) (hg : g < LN a) (hL : LN a ≤ 1000) : f_X11_isInside a (nI g) M = some (b2i (¬ M a g = -1 ∧ ¬ M a g = 9), M) := by
  unfold f_X11_isInside f_X11_isInside_0
  simp only [gd_t (nI_inb hg hL)]
  simp only [nI_clamp (show g < 2 ^ 31 by omega)]
  by_cases h1 : M a g = -1
  · simp [h1, f_X11_isInside_19, f_X11_isInside_20, gd, b2i]
  · by_cases h2 : M a g = 9
    · simp [h1, h2, f_X11_isInside_19, f_X11_isInside_20, gd, b2i]
    · simp [h1, h2, f_X11_isInside_20, gd, b2i]
theorem minRoom_spec (a c : Nat) (r : Int32) (M : Mem) (hc : M 174 3 = nI c) (hL : c ≤ LN a) (hL2 : LN a ≤ 1000) : f_X11_inRoom a r M = some (foldF (fun g x => if M a g = r then obit g x else x) c 0 0, M) := by
  refine loopF (L := fun n x y => f_X11_inRoom_5 a n r x y M) (E := fun x => some (x, M)) (N := c) (fun n g x hg => ?_) (fun n x => ?_) c 0 FU 0 (Nat.zero_add c) (by show c < 2000; omega)
  · show f_X11_inRoom_5 a (n + 1) r x (nI g) M = _
    conv => lhs; unfold f_X11_inRoom_5
    rw [hc, if_pos (nI_lt hg (by omega))]
    simp only [gd_t (nI_inb (Nat.lt_of_lt_of_le hg hL) hL2)]
    simp only [nI_clamp (show g < 2 ^ 31 by omega), f_X11_inRoom_31, vl, nI_1, or0, obit]
    split <;> rfl
  · show f_X11_inRoom_5 a (n + 1) r x (nI c) M = _
    conv => lhs; unfold f_X11_inRoom_5
    rw [hc, if_neg (nI_nlt (Nat.le_refl c) (by omega))]
theorem minside_spec (a c : Nat) (M : Mem) (hc : M 174 3 = nI c) (hL : c ≤ LN a) (hL2 : LN a ≤ 1000) : f_X11_inside a M = some (foldF (fun g x => if ¬ M a g = -1 ∧ ¬ M a g = 9 then obit g x else x) c 0 0, M) := by
  refine loopF (L := fun n x y => f_X11_inside_4 a n x y M) (E := fun x => some (x, M)) (N := c) (fun n g x hg => ?_) (fun n x => ?_) c 0 FU 0 (Nat.zero_add c) (by show c < 2000; omega)
  · show f_X11_inside_4 a (n + 1) x (nI g) M = _
    conv => lhs; unfold f_X11_inside_4
    rw [hc, if_pos (nI_lt hg (by omega)), misInside_spec a g M (Nat.lt_of_lt_of_le hg hL) hL2]
    by_cases hb : ¬ M a g = -1 ∧ ¬ M a g = 9
    · simp only [bd, b2i_t hb, if_pos hb, f_X11_inside_29, vl, nI_1, obit]
      rfl
    · simp only [bd, b2i_f hb, if_neg hb, f_X11_inside_29, vl, nI_1, or0]
      rfl
  · show f_X11_inside_4 a (n + 1) x (nI c) M = _
    conv => lhs; unfold f_X11_inside_4
    rw [hc, if_neg (nI_nlt (Nat.le_refl c) (by omega))]
