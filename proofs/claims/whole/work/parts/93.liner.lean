/-! the reference reads a line -/
theorem up_up (M : Mem) (i k : Nat) (a b : Int32) : up (up M i k a) i k b = up M i k b := by
  funext j q
  rw [up_at, up_at, up_at]
  split <;> rfl
section LinR
variable {M : Mem} {t : Nat → Nat} {L p : Nat}
theorem dig_x (hL : RC M t L) (h8 : M 174 18 = nI p) (h9 : M 174 19 = -1) (hp : p < 2 ^ 30) {lo hi : Nat} (hlo : lo ≤ 9) (hhi : hi ≤ 9) : f_X11_digit (nI lo) (nI hi) M = some (if 48 + lo ≤ lkp t L p ∧ lkp t L p ≤ 48 + hi then (nI (lkp t L p - 48), up M 174 18 (nI (p + 1))) else (0, up M 174 19 (nI p))) := by
  have l80 := hL.le
  unfold f_X11_digit f_X11_digit_0
  obtain ⟨x, ex, hx⟩ := here_ok hL h8 hp
  rw [fine_t h9, bd_e, if_neg (by decide), ex, bd_e, show (48 : Int32) + nI lo = nI (48 + lo) from nI_add 48 lo, show (48 : Int32) + nI hi = nI (48 + hi) from nI_add 48 hi, in_sg hx (by omega) (by omega), bd_e]
  by_cases h : 48 + lo ≤ lkp t L p ∧ lkp t L p ≤ 48 + hi
  · have hlt : p < L := lkp_lo (t := t) (fun e => by omega)
    have h280 : LN (dR (M 174 15)) ≤ 1000 := by rcases dR_c (M 174 15) with z | z <;> rw [z] <;> decide
    have h2 := hL.2.1
    have elk : lkp t L p = t p := if_pos hlt
    rw [b2i_t h, if_neg (by decide), if_pos h, h8, nI_1]
    simp only [ml, vl, up_self, up_col M 174 (nI (p + 1)) (show (15 : Nat) ≠ 18 by decide), nI_pred]
    rw [gd_t hL.1, gd_t (nI_inb (show p < LN (dR (M 174 15)) by omega) h280), nI_clamp (by omega), up_row _ _ _ (by rcases dR_c (M 174 15) with z | z <;> omega), (hL.2.2.2 p hlt).2, elk]
    rw [elk] at h
    rw [sB_lo (by omega), show nI (t p) - 48 = nI (t p - 48) from pk_sub (b := 48) (by omega)]
  · rw [b2i_f h, if_pos rfl, if_neg h, fault_t h9, bd_e, h8]
theorem dig_n (h : ¬ M 174 19 = -1) (a b : Int32) : f_X11_digit a b M = some (0, M) := by
  unfold f_X11_digit f_X11_digit_0
  rw [fine_f h, bd_e, if_pos rfl]
theorem let_x (hL : RC M t L) (h8 : M 174 18 = nI p) (h9 : M 174 19 = -1) (hp : p < 2 ^ 30) {c m : Nat} (hm : 1 ≤ m) (hcm : c + m < 128) : f_X11_letter (nI c) (nI m) M = some (if c ≤ lkp t L p ∧ lkp t L p ≤ c + m - 1 then (nI (lkp t L p - c), up M 174 18 (nI (p + 1))) else (0, up M 174 19 (nI p))) := by
  have l80 := hL.le
  unfold f_X11_letter f_X11_letter_0
  obtain ⟨x, ex, hx⟩ := here_ok hL h8 hp
  rw [fine_t h9, bd_e, if_neg (by decide), ex, bd_e, nI_add, nI_sub1 (by omega), in_sg hx (by omega) (by omega), bd_e]
  by_cases h : c ≤ lkp t L p ∧ lkp t L p ≤ c + m - 1
  · have hlt : p < L := lkp_lo (t := t) (fun e => by omega)
    have h280 : LN (dR (M 174 15)) ≤ 1000 := by rcases dR_c (M 174 15) with z | z <;> rw [z] <;> decide
    have h2 := hL.2.1
    have elk : lkp t L p = t p := if_pos hlt
    rw [b2i_t h, if_neg (by decide), if_pos h, h8, nI_1]
    simp only [ml, vl, up_self, up_col M 174 (nI (p + 1)) (show (15 : Nat) ≠ 18 by decide), nI_pred]
    rw [gd_t hL.1, gd_t (nI_inb (show p < LN (dR (M 174 15)) by omega) h280), nI_clamp (by omega), up_row _ _ _ (by rcases dR_c (M 174 15) with z | z <;> omega), (hL.2.2.2 p hlt).2, elk]
    rw [elk] at h
    rw [sB_lo (by omega), pk_sub (by omega)]
  · rw [b2i_f h, if_pos rfl, if_neg h, fault_t h9, bd_e, h8]
theorem let_n (h : ¬ M 174 19 = -1) (a b : Int32) : f_X11_letter a b M = some (0, M) := by
  unfold f_X11_letter f_X11_letter_0
  rw [fine_f h, bd_e, if_pos rfl]
theorem num_n (h : ¬ M 174 19 = -1) (a : Int32) : f_X11_number a M = some (0, M) := by
  unfold f_X11_number f_X11_number_0
  rw [dig_n h, bd_e, show FU = 1999 + 1 from rfl]
  unfold f_X11_number_10 f_X11_number_55
  rw [fine_f h, bd_e, if_pos rfl]
  split <;> rfl
theorem num_x (hL : RC M t L) (h8 : M 174 18 = nI p) (h9 : M 174 19 = -1) (hp : p ≤ L) : f_X11_number 2 M = some (if isDg (lkp t L p) = true then (nI (digs (lkp t L) 2 0 p).1, up M 174 18 (nI (digs (lkp t L) 2 0 p).2)) else (0, up M 174 19 (nI p))) := by
  have l80 := hL.le
  unfold f_X11_number f_X11_number_0
  rw [show f_X11_digit 0 9 M = _ from dig_x (lo := 0) (hi := 9) hL h8 h9 (by omega) (by decide) (by decide)]
  by_cases hd : isDg (lkp t L p) = true
  · have hd2 := isDg_i.mp hd
    have hlt : p < L := lkp_lo (t := t) (fun e => by omega)
    rw [if_pos hd2, bd_e, if_pos hd]
    have hL1 : RC (up M 174 18 (nI (p + 1))) t L := RC.fr r18 hL
    have h81 : up M 174 18 (nI (p + 1)) 174 18 = nI (p + 1) := up_self _ _ _ _
    have h91 : up M 174 18 (nI (p + 1)) 174 19 = -1 := by rw [up_col _ _ _ (by decide)]; exact h9
    obtain ⟨x, ex, hx⟩ := here_ok hL1 h81 (by omega)
    have e2 : digs (lkp t L) 2 0 p = if isDg (lkp t L (p + 1)) = true then ((lkp t L p - 48) * 10 + (lkp t L (p + 1) - 48), p + 1 + 1) else (lkp t L p - 48, p + 1) := by
      conv => lhs; unfold digs
      rw [if_pos hd]
      unfold digs digs
      split <;> simp
    rw [show FU = 1998 + 1 + 1 from rfl]
    conv => lhs; unfold f_X11_number_10 f_X11_number_55
    rw [if_pos (by decide), fine_t h91, bd_e, if_neg (by decide), ex, bd_e, show f_X11_in x 48 57 (up M 174 18 (nI (p + 1))) = some (b2i (48 ≤ lkp t L (p + 1) ∧ lkp t L (p + 1) ≤ 57), up M 174 18 (nI (p + 1))) from in_sg (lo := 48) (hi := 57) hx (by decide) (by decide) _, bd_e, e2]
    by_cases hd' : isDg (lkp t L (p + 1)) = true
    · have hd3 := isDg_i.mp hd'
      rw [b2i_t (by omega), if_neg (by decide), if_pos hd', show f_X11_digit 0 9 (up M 174 18 (nI (p + 1))) = _ from dig_x (lo := 0) (hi := 9) hL1 h81 h91 (by omega) (by decide) (by decide), if_pos hd3, bd_e]
      simp only [vl]
      unfold f_X11_number_10 f_X11_number_55
      rw [if_neg (by decide), up_up, show (10 : Int32) * nI (lkp t L p - 48) = nI (10 * (lkp t L p - 48)) from pk_mul 10 _, nI_add, Nat.mul_comm 10]
    · have hd3 : ¬ (48 ≤ lkp t L (p + 1) ∧ lkp t L (p + 1) ≤ 57) := fun z => hd' (isDg_i.mpr ⟨by omega, by omega⟩)
      rw [b2i_f hd3, if_pos rfl, if_neg hd']
  · rw [if_neg (fun z => hd (isDg_i.mpr z)), bd_e, if_neg hd]
    have hn : ¬ up M 174 19 (nI p) 174 19 = -1 := by rw [up_self]; exact nI_neq (by omega)
    rw [show FU = 1999 + 1 from rfl]
    unfold f_X11_number_10 f_X11_number_55
    rw [if_pos (by decide), fine_f hn, bd_e, if_pos rfl]
end LinR
/-- the reference's reading goes on behind a fault: nothing but the place and the row of what was read changes -/
def rgS (k : Nat) : Nat → Nat → Prop := fun i q => (i = 174 ∧ (q = 18 ∨ q = 19)) ∨ (i = 185 ∧ k ≤ q ∧ q < k + 10)
def rgF (k : Nat) : Nat → Nat → Prop := fun i q => (i = 174 ∧ q = 18) ∨ (i = 185 ∧ k ≤ q ∧ q < k + 10)
theorem rg133_f {n k : Nat} (hn : n ≤ 6) (hk : k + 10 ≤ 60) : ∀ (m r fu : Nat) (M : Mem), r + m = n → m < fu → M 174 1 = nI n → ¬ M 174 19 = -1 → wp (f_X11_readGroup_133 fu (nI k) (nI r) M) (fun _ M' => M' 174 18 = M 174 18 ∧ Fr (rgF k) M M')
  | 0, r, fu + 1, M, hr, _, h1, h9 => by
    unfold f_X11_readGroup_133
    rw [h1, if_neg (nI_nlt (by omega) (by omega)), wp_s]
    exact ⟨rfl, Fr.rf⟩
  | m + 1, r, fu + 1, M, hr, hf, h1, h9 => by
    unfold f_X11_readGroup_133
    rw [h1, if_pos (nI_lt (by omega) (by omega)), dig_n h9, bd_e, show nI k + 4 = nI (k + 4) from nI_add k 4, nI_add, gd_t (nI_inb (show k + 4 + r < 60 by omega) (by decide)), nI_clamp (by omega), wp_ml, wp_vl, nI_1]
    refine wp_mono (rg133_f hn hk m (r + 1) fu _ (by omega) (by omega) (by rw [up_row _ _ _ (by decide)]; exact h1) (by rw [up_row _ _ _ (by decide)]; exact h9)) (fun v M' q => ?_)
    exact ⟨by rw [q.1, up_row _ _ _ (by decide)], (Fr.up (S := rgF k) Fr.rf (Or.inr ⟨rfl, by omega, by omega⟩)).tr q.2⟩
theorem rg73_f {t : Nat → Nat} {L n k p : Nat} {M : Mem} (hn : n ≤ 6) (hk : k + 10 ≤ 60) (hL : RC M t L) (h8 : M 174 18 = nI p) (hp : p < 2 ^ 29) (h1 : M 174 1 = nI n) (h9 : ¬ M 174 19 = -1) : wp (f_X11_readGroup_73 (nI k) M) (fun _ M' => M' 174 18 = nI (p + 1) ∧ Fr (rgF k) M M') := by
  obtain ⟨x, ex, hx⟩ := here_ok hL h8 (by omega)
  have go : ∀ c : Int32, wp (f_X11_readGroup_94 (nI k) (nI k + 3) c M) (fun _ M' => M' 174 18 = nI (p + 1) ∧ Fr (rgF k) M M') := by
    intro c
    unfold f_X11_readGroup_94 f_X11_readGroup_121
    rw [show nI k + 3 = nI (k + 3) from nI_add k 3, gd_t (nI_inb (show k + 3 < 60 by omega) (by decide)), nI_clamp (by omega), wp_ml]
    have hF : Fr (rgF k) M (up M 185 (k + 3) c) := Fr.rf.up (Or.inr ⟨rfl, by omega, by omega⟩)
    have hL' : RC (up M 185 (k + 3) c) t L := by
      obtain ⟨a, b, ⟨n0, tp, d1, d2, d3, d4, d5⟩, e⟩ := hL
      refine ⟨by rw [up_row _ _ _ (by decide)]; exact a, by rw [up_row _ _ _ (by decide)]; exact b, ⟨n0, tp, d1, d2, by rw [up_row _ _ _ (by decide)]; exact d3, by rw [up_row _ _ _ (by decide)]; exact d4, d5⟩, fun q hq => ?_⟩
      rw [up_row _ _ _ (show (174 : Nat) ≠ 185 by decide), up_row _ _ _ (by rcases dR_c (M 174 15) with z | z <;> omega)]
      exact e q hq
    have h8' : up M 185 (k + 3) c 174 18 = nI p := by rw [up_row _ _ _ (by decide)]; exact h8
    have h9' : ¬ up M 185 (k + 3) c 174 19 = -1 := by rw [up_row _ _ _ (by decide)]; exact h9
    obtain ⟨y, ey, -⟩ := here_ok hL' h8' (by omega)
    have fin : wp (ml (up (up M 185 (k + 3) c) 174 18 (up M 185 (k + 3) c 174 18 + 1)) fun M30 => f_X11_readGroup_133 FU (nI k) 0 M30) (fun _ M' => M' 174 18 = nI (p + 1) ∧ Fr (rgF k) M M') := by
      rw [wp_ml, h8', nI_1]
      refine wp_mono (rg133_f hn hk n 0 FU _ (by omega) (by show n < 2000; omega) (by rw [up_col _ _ _ (by decide), up_row _ _ _ (by decide)]; exact h1) (by rw [up_col _ _ _ (by decide)]; exact h9')) (fun v M' q => ?_)
      exact ⟨by rw [q.1, up_self], (hF.up (Or.inl ⟨rfl, rfl⟩)).tr q.2⟩
    rw [ey, bd_e, wp_if]
    refine ⟨fun _ => fin, fun _ => ?_⟩
    rw [ey, bd_e, wp_if]
    refine ⟨fun _ => fin, fun _ => ?_⟩
    rw [fault_f h9', bd_e]
    exact fin
  unfold f_X11_readGroup_73
  rw [ex, bd_e, wp_if]
  exact ⟨fun _ => go 1, fun _ => go 0⟩
