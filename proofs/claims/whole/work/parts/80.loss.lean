/-! loss -/
def szN (M : Mem) (g : Nat) : Nat := (M 6 g).toNatClampNeg
theorem sz_ok {M : Mem} {C : Cf} (hD : DtE M C) {g : Nat} (hg : g < C.2.1) : M 6 g = nI (szN M g) ∧ szN M g ≤ 40 ∧ M 179 g = nI (szN M g) := by
  obtain ⟨-, d2, -, ⟨z, z1, z2, z3⟩, -⟩ := hD g hg
  have e : szN M g = z := by unfold szN; rw [z3, nI_clamp (by omega)]
  rw [e]
  exact ⟨z3, z2, d2 ▸ z3⟩
/-- what is lost in a room -/
def lsR (C : Cf) (z : Nat → Nat) (a b r : Nat) : Nat := if Sy C b r < Sy C a r then (Sy C a r - Sy C b r) * z b else (Sy C b r - Sy C a r) * z a
def lsN (C : Cf) (z : Nat → Nat) (a b : Nat) : Nat := foldF (fun r x => x + lsR C z a b r) C.1 0 0
theorem lsR_le {C : Cf} {z : Nat → Nat} (hC : COk C) {a b : Nat} (ha : z a ≤ 40) (hb : z b ≤ 40) (r : Nat) : lsR C z a b r ≤ 1200 := by
  have h1 := Sy_le hC a r
  have h2 := Sy_le hC b r
  unfold lsR
  split
  · exact Nat.le_trans (Nat.mul_le_mul (show Sy C a r - Sy C b r ≤ 30 by omega) hb) (by decide)
  · exact Nat.le_trans (Nat.mul_le_mul (show Sy C b r - Sy C a r ≤ 30 by omega) ha) (by decide)
theorem lsN_le {C : Cf} {z : Nat → Nat} (hC : COk C) {a b : Nat} (ha : z a ≤ 40) (hb : z b ≤ 40) : lsN C z a b ≤ 7200 := by
  have h := fold_le (f := fun r x => x + lsR C z a b r) (B := 1200) (fun k x => by have := lsR_le hC ha hb k; show x + lsR C z a b k ≤ _; omega) C.1 0 0
  have h3 : C.1 * 1200 ≤ 6 * 1200 := Nat.mul_le_mul_right 1200 hC.1
  unfold lsN
  omega
theorem sub_neg {a b : Nat} (h : a ≤ b) : -(nI a - nI b) = nI (b - a) := by
  rw [Int32.neg_sub, pk_sub h]
theorem sub_pos {a b : Nat} (ha : a < 2 ^ 30) (hb : b < 2 ^ 30) : (0 : Int32) < nI a - nI b ↔ b < a := by
  rw [Int32.lt_iff_toInt_lt, pk_sub_toInt ha hb]
  have : (0 : Int32).toInt = 0 := by decide
  omega
theorem sub_lt0 {a b : Nat} (ha : a < 2 ^ 30) (hb : b < 2 ^ 30) : nI a - nI b < (0 : Int32) ↔ a < b := by
  rw [Int32.lt_iff_toInt_lt, pk_sub_toInt ha hb]
  have : (0 : Int32).toInt = 0 := by decide
  omega
theorem c_loss {C : Cf} {M : Mem} {z : Nat → Nat} (hC : COk C) (hM : CfC M C) {a b : Nat} (ha : a < C.2.1) (hb : b < C.2.1) (za : M 6 a = nI (z a)) (zb : M 6 b = nI (z b)) : f_X1_lossOf_56 FU (nI a) (nI b) 0 0 M = some (nI (lsN C z a b), M) := by
  have c1 := hC.1
  have c2 := hC.2.1
  refine (loopF (L := fun n x y => f_X1_lossOf_56 n (nI a) (nI b) x y M) (E := fun x => some (x, M)) (f := fun r x => x + nI (lsR C z a b r)) (N := C.1) (fun n r x hr => ?_) (fun n x => ?_) C.1 0 FU 0 (Nat.zero_add _) (by show C.1 < 2000; omega)).trans ?_
  · have h1 := Sy_le hC a r
    have h2 := Sy_le hC b r
    show f_X1_lossOf_56 (n + 1) (nI a) (nI b) x (nI r) M = _
    conv => lhs; unfold f_X1_lossOf_56 f_X1_lossOf_114
    rw [hM.1, if_pos (nI_lt hr (by omega))]
    simp only [gd_t (nI_inb (show a < 6 by omega) (show 6 ≤ 1000 by decide)), gd_t (nI_inb (show b < 6 by omega) (show 6 ≤ 1000 by decide)), gd_t (nI_inb (show r < 6 by omega) (show 6 ≤ 1000 by decide))]
    rw [nI_clamp (by omega), nI_clamp (by omega), nI_clamp (by omega), cStay hM ha hr, cStay hM hb hr, za, zb]
    simp only [vl, nI_1]
    unfold lsR
    by_cases hlt : Sy C b r < Sy C a r
    · rw [if_pos ((sub_pos (by omega) (by omega)).mpr hlt), if_pos hlt, pk_sub (by omega), pk_mul]
    · rw [if_neg (fun q => hlt ((sub_pos (by omega) (by omega)).mp q)), if_neg hlt, sub_neg (by omega), pk_mul]
  · show f_X1_lossOf_56 (n + 1) (nI a) (nI b) x (nI C.1) M = _
    conv => lhs; unfold f_X1_lossOf_56
    rw [hM.1, if_neg (nI_nlt (Nat.le_refl _) (by omega))]
  · congr 2
    exact foldF_nI C.1 0 0 (fun k x _ _ => nI_add x _)
theorem r_loss {C : Cf} {M : Mem} {z : Nat → Nat} (hC : COk C) (hM : CfR M C) (hT : StR M C) {a b : Nat} (ha : a < C.2.1) (hb : b < C.2.1) (za : M 179 a = nI (z a)) (zb : M 179 b = nI (z b)) : f_X11_lossOf (nI a) (nI b) M = some (nI (lsN C z a b), M) := by
  have c1 := hC.1
  have c2 := hC.2.1
  refine (loopF (L := fun n x y => f_X11_lossOf_5 n (nI a) (nI b) x y M) (E := fun x => some (x, M)) (f := fun r x => x + nI (lsR C z a b r)) (N := C.1) (fun n r x hr => ?_) (fun n x => ?_) C.1 0 FU 0 (Nat.zero_add _) (by show C.1 < 2000; omega)).trans ?_
  · have h1 := Sy_le hC a r
    have h2 := Sy_le hC b r
    show f_X11_lossOf_5 (n + 1) (nI a) (nI b) x (nI r) M = _
    conv => lhs; unfold f_X11_lossOf_5 f_X11_lossOf_69
    rw [hM.1, if_pos (nI_lt hr (by omega)), lm6, lm6, nI_add, nI_add, gd_t (nI_inb (show 6 * a + r < 36 by omega) (by decide)), gd_t (nI_inb (show 6 * b + r < 36 by omega) (by decide))]
    simp only [gd_t (nI_inb (show a < 6 by omega) (show 6 ≤ 1000 by decide)), gd_t (nI_inb (show b < 6 by omega) (show 6 ≤ 1000 by decide))]
    rw [nI_clamp (by omega), nI_clamp (by omega), nI_clamp (by omega), nI_clamp (by omega), rStay hT ha hr, rStay hT hb hr, za, zb]
    simp only [vl, nI_1]
    unfold lsR
    by_cases hlt : Sy C b r < Sy C a r
    · rw [if_neg (fun q => by have := (sub_lt0 (by omega) (by omega)).mp q; omega), if_pos hlt, pk_sub (by omega), pk_mul]
    · rw [if_neg hlt]
      by_cases heq : Sy C a r = Sy C b r
      · rw [heq, pk_sub (Nat.le_refl _), Nat.sub_self, Nat.zero_mul, if_neg (by decide), pk_mul, Nat.zero_mul]
      · rw [if_pos ((sub_lt0 (by omega) (by omega)).mpr (by omega)), sub_neg (by omega), pk_mul]
  · show f_X11_lossOf_5 (n + 1) (nI a) (nI b) x (nI C.1) M = _
    conv => lhs; unfold f_X11_lossOf_5
    rw [hM.1, if_neg (nI_nlt (Nat.le_refl _) (by omega))]
  · congr 2
    exact foldF_nI C.1 0 0 (fun k x _ _ => nI_add x _)
/-- whether two can be joined -/
def jnB (C : Cf) (tg : Nat → Int32) (z : Nat → Nat) (a b : Nat) : Bool := decide (tg a = tg b) && (C.2.2.2.1 a == C.2.2.2.1 b) && decide (z a + z b ≤ 40)
theorem b2i_eq (x y : Bool) : (b2i (x = true) = b2i (y = true)) ↔ x = y := by cases x <;> cases y <;> decide
theorem c_lossOf {C : Cf} {M : Mem} {tg : Nat → Int32} {z : Nat → Nat} (hC : COk C) (hM : CfC M C) {a b : Nat} (ha : a < C.2.1) (hb : b < C.2.1) (ta : M 5 a = tg a) (tb : M 5 b = tg b) (za : M 6 a = nI (z a)) (zb : M 6 b = nI (z b)) (z4a : z a ≤ 40) (z4b : z b ≤ 40) : f_X1_lossOf (nI a) (nI b) M = some (if jnB C tg z a b = true then nI (lsN C z a b) else -2, M) := by
  have c2 := hC.2.1
  unfold f_X1_lossOf f_X1_lossOf_0 f_X1_lossOf_48 jnB
  simp only [gd_t (nI_inb (show a < 6 by omega) (show 6 ≤ 1000 by decide)), gd_t (nI_inb (show b < 6 by omega) (show 6 ≤ 1000 by decide))]
  rw [nI_clamp (by omega), nI_clamp (by omega), ta, tb, (hM.2.2.2 a ha).1, (hM.2.2.2 b hb).1, za, zb, nI_add, c_loss hC hM ha hb za zb]
  by_cases h1 : tg a = tg b
  · rw [if_pos h1]
    by_cases h2 : C.2.2.2.1 a = C.2.2.2.1 b
    · rw [if_pos ((b2i_eq _ _).mpr h2)]
      simp only [vl]
      by_cases h3 : z a + z b ≤ 40
      · rw [if_neg (show ¬ 40 < nI (z a + z b) from nI_nlt (a := 40) (by omega) (by decide)), if_pos (by simp [h1, h2, h3])]
      · rw [if_pos (show 40 < nI (z a + z b) from nI_lt (a := 40) (by omega) (by omega)), if_neg (by simp [h3])]
    · rw [if_neg (fun q => h2 ((b2i_eq _ _).mp q)), if_neg (by simp [h2])]
  · rw [if_neg h1, if_neg (by simp [h1])]
theorem r_canJoin {C : Cf} {M : Mem} {tg : Nat → Int32} {z : Nat → Nat} (hC : COk C) (hM : CfR M C) {a b : Nat} (ha : a < C.2.1) (hb : b < C.2.1) (ta : M 178 a = tg a) (tb : M 178 b = tg b) (za : M 179 a = nI (z a)) (zb : M 179 b = nI (z b)) (z4a : z a ≤ 40) (z4b : z b ≤ 40) : f_X11_canJoin (nI a) (nI b) M = some (b2i (jnB C tg z a b = true), M) := by
  have c2 := hC.2.1
  unfold f_X11_canJoin f_X11_canJoin_0 f_X11_canJoin_52 f_X11_canJoin_53 jnB
  simp only [gd_t (nI_inb (show a < 6 by omega) (show 6 ≤ 1000 by decide)), gd_t (nI_inb (show b < 6 by omega) (show 6 ≤ 1000 by decide))]
  rw [nI_clamp (by omega), nI_clamp (by omega), ta, tb, (hM.2.2.2 a ha).1, (hM.2.2.2 b hb).1, za, zb, nI_add]
  rw [gd_t (x := some ((0 : Int32), M)) (by decide), gd_t (x := some ((1 : Int32), M)) (by decide)]
  by_cases h1 : tg a = tg b
  · rw [if_pos h1]
    by_cases h2 : C.2.2.2.1 a = C.2.2.2.1 b
    · rw [if_pos ((b2i_eq _ _).mpr h2)]
      simp only [vl]
      by_cases h3 : z a + z b ≤ 40
      · rw [if_neg (show ¬ 40 < nI (z a + z b) from nI_nlt (a := 40) (by omega) (by decide)), b2i_t (by simp [h1, h2, h3])]
      · rw [if_pos (show 40 < nI (z a + z b) from nI_lt (a := 40) (by omega) (by omega)), b2i_f (by simp [h3])]
    · rw [if_neg (fun q => h2 ((b2i_eq _ _).mp q)), b2i_f (by simp [h2])]
  · rw [if_neg h1, b2i_f (by simp [h1])]
theorem areTwo_t {C : Cf} {M : Mem} (hC : COk C) (hM : CfR M C) {a b : Nat} (ha : a < C.2.1) (hb : b < C.2.1) : f_X11_areTwo (nI a) (nI b) M = some (b2i (a ≠ b), M) := by
  have c2 := hC.2.1
  unfold f_X11_areTwo f_X11_areTwo_0 f_X11_areTwo_25 f_X11_areTwo_26
  rw [isG_t hC hM ha, bd_e, if_neg (by decide), isG_t hC hM hb, bd_e, if_neg (by decide), gd_t (by decide), gd_t (by decide)]
  by_cases e : a = b
  · rw [if_pos (by rw [e]), b2i_f (fun z => z e)]
  · rw [if_neg (fun z => e ((nI_eq (by omega) (by omega)).mp z)), b2i_t e]
theorem areTwo_f1 {C : Cf} {M : Mem} (hC : COk C) (hM : CfR M C) {x y : Int32} (h : x < 0 ∨ ¬ x < nI C.2.1) : f_X11_areTwo x y M = some (0, M) := by
  unfold f_X11_areTwo f_X11_areTwo_0 f_X11_areTwo_25 f_X11_areTwo_26
  rw [isG_f hC hM h, bd_e, if_pos rfl, gd_t (by decide)]
theorem areTwo_f2 {C : Cf} {M : Mem} (hC : COk C) (hM : CfR M C) {a : Nat} {y : Int32} (ha : a < C.2.1) (h : y < 0 ∨ ¬ y < nI C.2.1) : f_X11_areTwo (nI a) y M = some (0, M) := by
  unfold f_X11_areTwo f_X11_areTwo_0 f_X11_areTwo_25 f_X11_areTwo_26
  rw [isG_t hC hM ha, bd_e, if_neg (by decide), isG_f hC hM h, bd_e, if_pos rfl, gd_t (by decide)]
theorem st_loss {N : Nat} {M : Mem} (hN : N < 512) (h : Cpl N M) (x y : Int32) : Both N (f_X10_loss x y) (f_X11_loss x y) M := by
  obtain ⟨⟨C, σ, hI⟩, hR⟩ := h
  obtain ⟨a1, a2, a3, a4, a5, a6, a7, a8, a9, a10, a11⟩ := id hI
  have c2 := a1.2.1
  obtain ⟨m14, r14, h14⟩ := C14g (Mc := M) hI (fun _ _ _ => rfl)
  have done : Cpl (N + 1) (up M 174 14 0) := q_same hI hN hR fr14
  unfold Both f_X10_loss f_X10_loss_0 f_X10_loss_27 f_X11_loss f_X11_loss_0
  rcases gcase C.2.1 c2 x with ⟨a, ha, rfl⟩ | ⟨hx, _⟩
  rotate_left
  · rw [hasG_f a5 hx, bd_e, if_pos rfl, wp_s, wp_ml, areTwo_f1 a1 m14 hx, bd_e, if_pos rfl, wp_s]
    exact ⟨rfl, done⟩
  rw [hasG_t a1 a5 ha, bd_e, if_neg (by decide)]
  rcases gcase C.2.1 c2 y with ⟨b, hb, rfl⟩ | ⟨hy, _⟩
  rotate_left
  · rw [hasG_f a5 hy, bd_e, if_pos rfl, wp_s, wp_ml, areTwo_f2 a1 m14 ha hy, bd_e, if_pos rfl, wp_s]
    exact ⟨rfl, done⟩
  rw [hasG_t a1 a5 hb, bd_e, if_neg (by decide)]
  by_cases e : a = b
  · rw [if_pos (by rw [e]), wp_s, wp_ml, areTwo_t a1 m14 ha hb, bd_e, b2i_f (fun z => z e), if_pos rfl, wp_s]
    exact ⟨rfl, done⟩
  obtain ⟨za, z4a, ra⟩ := sz_ok a10 ha
  obtain ⟨zb, z4b, rb⟩ := sz_ok a10 hb
  have g14 : ∀ i k, i ≠ 174 → up M 174 14 0 i k = M i k := fun i k hi => by rw [up_row _ _ _ hi]
  rw [if_neg (fun z => e ((nI_eq (by omega) (by omega)).mp z)), c_lossOf (tg := fun g => M 5 g) (z := szN M) a1 a5 ha hb rfl rfl za zb z4a z4b, bd_e, wp_s, wp_ml, areTwo_t a1 m14 ha hb, bd_e, b2i_t e, if_neg (by decide), r_canJoin (tg := fun g => M 5 g) (z := szN M) a1 m14 ha hb ((g14 178 a (by decide)).trans (a10 a ha).1.symm) ((g14 178 b (by decide)).trans (a10 b hb).1.symm) ((g14 179 a (by decide)).trans ra) ((g14 179 b (by decide)).trans rb) z4a z4b, bd_e]
  by_cases hj : jnB C (fun g => M 5 g) (szN M) a b = true
  · rw [b2i_t hj, if_neg (by decide), if_pos hj, wp_bd]
    refine wp_mono (r_aside (Mc := M) hI (fun _ _ _ => rfl)) (fun _ N1 q => ?_)
    obtain ⟨⟨e1, e2, e3⟩, e4, e5⟩ := q
    have f179 : ∀ g, N1 179 g = M 179 g := fun g => e4 179 g (by unfold scr0; omega)
    rw [r_loss (z := szN M) a1 e2.1 e1 ha hb ((f179 a).trans ra) ((f179 b).trans rb), bd_e, wp_s]
    exact ⟨rfl, q_same hI hN hR e4⟩
  · rw [b2i_f hj, if_pos rfl, if_neg hj, wp_s]
    exact ⟨rfl, done⟩
