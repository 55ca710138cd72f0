/-! the reference reads a whole line -/
theorem RC.fg {M M' : Mem} {t : Nat → Nat} {L k : Nat} (h : Fr (rgS k) M M') (hc : RC M t L) : RC M' t L := by
  obtain ⟨h1, h2, ⟨n0, tp, a, b, e1, e2, e3⟩, h3⟩ := hc
  have e : ∀ q, q ≠ 18 → q ≠ 19 → M' 174 q = M 174 q := fun q a b => h 174 q (by unfold rgS; omega)
  have e15 := e 15 (by decide) (by decide)
  refine ⟨by rw [e15]; exact h1, by rw [e15]; exact h2, ⟨n0, tp, a, b, (e 16 (by decide) (by decide)).trans e1, (e 17 (by decide) (by decide)).trans e2, e3⟩, fun p hp => ?_⟩
  rw [e15, h _ p (by unfold rgS; rcases dR_c (M 174 15) with z | z <;> omega)]
  exact h3 p hp
theorem rgFS {k : Nat} {M M' : Mem} (h : Fr (rgF k) M M') : Fr (rgS k) M M' := h.mn (fun i q z => by unfold rgF at z; unfold rgS; omega)
section LinS
variable {t : Nat → Nat} {L n k : Nat}
theorem rg133_s {p : Nat} (hn : n ≤ 6) (hk : k + 10 ≤ 60) (hp : p ≤ 100) : ∀ (m r fu : Nat) (M : Mem), r + m = n → m < fu → M 174 1 = nI n → RC M t L → M 174 18 = nI (p + r) → M 174 19 = -1 → (∀ j, j < r → M 185 (k + 4 + j) = nI (lkp t L (p + j) - 48)) → wp (f_X11_readGroup_133 fu (nI k) (nI r) M) (fun _ M' => Fr (rgS k) M M' ∧ match dgs (lkp t L) p m r with
    | some f => M' 174 19 = nI f
    | none => M' 174 19 = -1 ∧ M' 174 18 = nI (p + n) ∧ (∀ j, j < n → M' 185 (k + 4 + j) = nI (lkp t L (p + j) - 48)) ∧ ∀ q, q < k + 4 → M' 185 q = M 185 q)
  | 0, r, fu + 1, M, hr, _, h1, hL, h8, h9, hj => by
    unfold f_X11_readGroup_133 dgs
    rw [h1, if_neg (nI_nlt (by omega) (by omega)), wp_s]
    rw [show r = n by omega] at h8 hj
    exact ⟨Fr.rf, h9, h8, hj, fun q _ => rfl⟩
  | m + 1, r, fu + 1, M, hr, hf, h1, hL, h8, h9, hj => by
    unfold f_X11_readGroup_133 dgs
    rw [h1, if_pos (nI_lt (by omega) (by omega)), show f_X11_digit 0 9 M = _ from dig_x (lo := 0) (hi := 9) hL h8 h9 (by omega) (by decide) (by decide), show nI k + 4 = nI (k + 4) from nI_add k 4, nI_add]
    by_cases hd : isDg (lkp t L (p + r)) = true
    · have hd2 := isDg_i.mp hd
      rw [if_pos hd2, bd_e, gd_t (nI_inb (show k + 4 + r < 60 by omega) (by decide)), nI_clamp (by omega), wp_ml, wp_vl, nI_1, if_pos hd]
      have hF : Fr (rgS k) M (up (up M 174 18 (nI (p + r + 1))) 185 (k + 4 + r) (nI (lkp t L (p + r) - 48))) := (Fr.rf.up (Or.inl ⟨rfl, by omega⟩)).up (Or.inr ⟨rfl, by omega, by omega⟩)
      refine wp_mono (rg133_s hn hk hp m (r + 1) fu _ (by omega) (by omega) (by rw [up_row _ _ _ (by decide), up_col _ _ _ (by decide)]; exact h1) (RC.fg hF hL) (by rw [up_row _ _ _ (by decide), up_self]; rfl) (by rw [up_row _ _ _ (by decide), up_col _ _ _ (by decide)]; exact h9) (fun j hj2 => ?_)) (fun v M' q => ⟨hF.tr q.1, ?_⟩)
      · by_cases e : j = r
        · subst e; rw [up_self]
        · rw [up_col _ _ _ (by omega), up_row _ _ _ (by decide)]; exact hj j (by omega)
      · cases ed : dgs (lkp t L) p m (r + 1) with
        | some f => have := q.2; rw [ed] at this; exact this
        | none =>
          have := q.2
          rw [ed] at this
          obtain ⟨a, b, c, d⟩ := this
          exact ⟨a, b, c, fun q hq => by rw [d q hq, up_col _ _ _ (by omega), up_row _ _ _ (by decide)]⟩
    · have hd3 : ¬ (48 + 0 ≤ lkp t L (p + r) ∧ lkp t L (p + r) ≤ 48 + 9) := fun z => hd (isDg_i.mpr z)
      rw [if_neg hd3, bd_e, gd_t (nI_inb (show k + 4 + r < 60 by omega) (by decide)), nI_clamp (by omega), wp_ml, wp_vl, nI_1, if_neg hd]
      have hF : Fr (rgS k) M (up (up M 174 19 (nI (p + r))) 185 (k + 4 + r) 0) := (Fr.rf.up (Or.inl ⟨rfl, by omega⟩)).up (Or.inr ⟨rfl, by omega, by omega⟩)
      have e9 : up (up M 174 19 (nI (p + r))) 185 (k + 4 + r) 0 174 19 = nI (p + r) := by rw [up_row _ _ _ (by decide), up_self]
      refine wp_mono (rg133_f hn hk m (r + 1) fu _ (by omega) (by omega) (by rw [up_row _ _ _ (by decide), up_col _ _ _ (by decide)]; exact h1) (by rw [e9]; exact nI_neq (by omega))) (fun v M' q => ⟨hF.tr (rgFS q.2), ?_⟩)
      show M' 174 19 = nI (p + r)
      rw [q.2 174 19 (by unfold rgF; omega), e9]
theorem rg73_s {p : Nat} {M : Mem} (hn : n ≤ 6) (hk : k + 10 ≤ 60) (hp : p ≤ 90) (hL : RC M t L) (h1 : M 174 1 = nI n) (h8 : M 174 18 = nI p) (h9 : M 174 19 = -1) : wp (f_X11_readGroup_73 (nI k) M) (fun _ M' => Fr (rgS k) M M' ∧ if lkp t L p = 60 ∨ lkp t L p = 62 then (match dgs (lkp t L) (p + 1) n 0 with
    | some f => M' 174 19 = nI f
    | none => M' 174 19 = -1 ∧ M' 174 18 = nI (p + 1 + n) ∧ (∀ j, j < n → M' 185 (k + 4 + j) = nI (lkp t L (p + 1 + j) - 48)) ∧ M' 185 (k + 3) = b2i (lkp t L p = 60) ∧ ∀ q, q < k + 3 → M' 185 q = M 185 q) else M' 174 19 = nI p) := by
  obtain ⟨x, ex, hx⟩ := here_ok hL h8 (by omega)
  unfold f_X11_readGroup_73
  rw [ex, bd_e]
  have e60 := hx.eq (c := 60) (by decide)
  have e62 := hx.eq (c := 62) (by decide)
  have F0 : ∀ c : Int32, Fr (rgS k) M (up M 185 (k + 3) c) := fun c => Fr.rf.up (Or.inr ⟨rfl, by omega, by omega⟩)
  have h8' : ∀ c : Int32, up M 185 (k + 3) c 174 18 = nI p := fun c => by rw [up_row _ _ _ (by decide)]; exact h8
  have h9' : ∀ c : Int32, up M 185 (k + 3) c 174 19 = -1 := fun c => by rw [up_row _ _ _ (by decide)]; exact h9
  have go : lkp t L p = 60 ∨ lkp t L p = 62 → ∀ c : Int32, c = b2i (lkp t L p = 60) → wp (f_X11_readGroup_121 (nI k) (up M 185 (k + 3) c)) (fun _ M' => Fr (rgS k) M M' ∧ if lkp t L p = 60 ∨ lkp t L p = 62 then (match dgs (lkp t L) (p + 1) n 0 with
      | some f => M' 174 19 = nI f
      | none => M' 174 19 = -1 ∧ M' 174 18 = nI (p + 1 + n) ∧ (∀ j, j < n → M' 185 (k + 4 + j) = nI (lkp t L (p + 1 + j) - 48)) ∧ M' 185 (k + 3) = b2i (lkp t L p = 60) ∧ ∀ q, q < k + 3 → M' 185 q = M 185 q) else M' 174 19 = nI p) := by
    intro hw c hc
    unfold f_X11_readGroup_121
    rw [wp_ml, h8', nI_1]
    have hF : Fr (rgS k) M (up (up M 185 (k + 3) c) 174 18 (nI (p + 1))) := (F0 c).up (Or.inl ⟨rfl, by omega⟩)
    refine wp_mono (rg133_s (p := p + 1) hn hk (by omega) n 0 FU _ (by omega) (by show n < 2000; omega) (by rw [up_col _ _ _ (by decide), up_row _ _ _ (by decide)]; exact h1) (RC.fg hF hL) (up_self _ _ _ _) (by rw [up_col _ _ _ (by decide)]; exact h9' c) (fun j hj => absurd hj (Nat.not_lt_zero j))) (fun v M' q => ⟨hF.tr q.1, ?_⟩)
    rw [if_pos hw]
    cases ed : dgs (lkp t L) (p + 1) n 0 with
    | some f => have := q.2; rw [ed] at this; exact this
    | none =>
      have := q.2
      rw [ed] at this
      obtain ⟨a, b, c', d⟩ := this
      exact ⟨a, b, c', by rw [d (k + 3) (by omega), up_row _ _ _ (by decide), up_self]; exact hc, fun q hq => by rw [d q (by omega), up_row _ _ _ (by decide), up_col _ _ _ (by omega)]⟩
  by_cases h60 : lkp t L p = 60
  · rw [if_pos (show x = 60 from e60.mpr h60)]
    unfold f_X11_readGroup_94
    rw [show nI k + 3 = nI (k + 3) from nI_add k 3, gd_t (nI_inb (show k + 3 < 60 by omega) (by decide)), nI_clamp (by omega), wp_ml]
    obtain ⟨y, ey, hy⟩ := here_ok (RC.fg (F0 1) hL) (h8' 1) (by omega)
    rw [ey, bd_e, if_pos (show y = 60 from (hy.eq (c := 60) (by decide)).mpr h60)]
    exact go (Or.inl h60) 1 (by rw [b2i_t h60])
  · rw [if_neg (show ¬ x = 60 from fun z => h60 (e60.mp z))]
    unfold f_X11_readGroup_94
    rw [show nI k + 3 = nI (k + 3) from nI_add k 3, gd_t (nI_inb (show k + 3 < 60 by omega) (by decide)), nI_clamp (by omega), wp_ml]
    obtain ⟨y, ey, hy⟩ := here_ok (RC.fg (F0 0) hL) (h8' 0) (by omega)
    rw [ey, bd_e, if_neg (show ¬ y = 60 from fun z => h60 ((hy.eq (c := 60) (by decide)).mp z)), ey, bd_e]
    by_cases h62 : lkp t L p = 62
    · rw [if_pos (show y = 62 from (hy.eq (c := 62) (by decide)).mpr h62)]
      exact go (Or.inr h62) 0 (by rw [b2i_f h60])
    · rw [if_neg (show ¬ y = 62 from fun z => h62 ((hy.eq (c := 62) (by decide)).mp z)), fault_t (h9' 0), bd_e, h8']
      unfold f_X11_readGroup_121
      rw [wp_ml, up_col _ _ _ (by decide), h8', nI_1]
      have hF : Fr (rgS k) M (up (up (up M 185 (k + 3) 0) 174 19 (nI p)) 174 18 (nI (p + 1))) := ((F0 0).up (Or.inl ⟨rfl, by omega⟩)).up (Or.inl ⟨rfl, by omega⟩)
      have e9 : up (up (up M 185 (k + 3) 0) 174 19 (nI p)) 174 18 (nI (p + 1)) 174 19 = nI p := by rw [up_col _ _ _ (by decide), up_self]
      refine wp_mono (rg133_f hn hk n 0 FU _ (by omega) (by show n < 2000; omega) (by rw [up_col _ _ _ (by decide), up_col _ _ _ (by decide), up_row _ _ _ (by decide)]; exact h1) (by rw [e9]; exact nI_neq (by omega))) (fun v M' q => ⟨hF.tr (rgFS q.2), ?_⟩)
      rw [if_neg (by omega), q.2 174 19 (by unfold rgF; omega), e9]
def rgC (x1 : Int32) (M15 : Mem) : Option (Int32 × Mem) :=
  bd (f_X11_fine M15) fun r16 M17 =>
  if r16 = 0 then
    f_X11_readGroup_73 x1 M17
  else
    gd (0 ≤ (x1 + 2) ∧ (x1 + 2).toNatClampNeg < 60) <|
    bd (f_X11_in (M17 185 (x1 + 2).toNatClampNeg) 1 40 M17) fun r46 M47 =>
    if r46 = 0 then
      bd (f_X11_fault ((M47 174 18) - 1) M47) fun _ M51 =>
      f_X11_readGroup_73 x1 M51
    else
      f_X11_readGroup_73 x1 M47
def rgB (x1 : Int32) (M10 : Mem) : Option (Int32 × Mem) :=
  bd (f_X11_number 2 M10) fun r11 M12 =>
  gd (0 ≤ (x1 + 2) ∧ (x1 + 2).toNatClampNeg < 60) <|
  ml (up M12 185 (x1 + 2).toNatClampNeg r11) fun M15 => rgC x1 M15
def rgA (x1 : Int32) (M5 : Mem) : Option (Int32 × Mem) :=
  bd (f_X11_letter 118 5 M5) fun r6 M7 =>
  gd (0 ≤ (x1 + 1) ∧ (x1 + 1).toNatClampNeg < 60) <|
  ml (up M7 185 (x1 + 1).toNatClampNeg r6) fun M10 => rgB x1 M10
theorem rg0 (x1 : Int32) (M : Mem) : f_X11_readGroup x1 M = bd (f_X11_number 2 M) fun r1 M2 => gd (0 ≤ x1 ∧ x1.toNatClampNeg < 60) (ml (up M2 185 x1.toNatClampNeg r1) fun M5 => rgA x1 M5) := rfl
abbrev RgF (k f : Nat) (M : Mem) : Int32 → Mem → Prop := fun _ M' => M' 174 19 = nI f ∧ Fr (rgS k) M M'
theorem rgC_f {p f : Nat} {M : Mem} (hn : n ≤ 6) (hk : k + 10 ≤ 60) (hL : RC M t L) (h1 : M 174 1 = nI n) (h8 : M 174 18 = nI p) (hp : p ≤ 100) (h9 : M 174 19 = nI f) (hf : f ≤ 100) : wp (rgC (nI k) M) (RgF k f M) := by
  have h9' : ¬ M 174 19 = -1 := by rw [h9]; exact nI_neq (by omega)
  unfold rgC
  rw [fine_f h9', bd_e, if_pos rfl]
  exact wp_mono (rg73_f hn hk hL h8 (by omega) h1 h9') (fun v M' q => ⟨(q.2 174 19 (by unfold rgF; omega)).trans h9, rgFS q.2⟩)
theorem rgB_f {p f : Nat} {M : Mem} (hn : n ≤ 6) (hk : k + 10 ≤ 60) (hL : RC M t L) (h1 : M 174 1 = nI n) (h8 : M 174 18 = nI p) (hp : p ≤ 100) (h9 : M 174 19 = nI f) (hf : f ≤ 100) : wp (rgB (nI k) M) (RgF k f M) := by
  have h9' : ¬ M 174 19 = -1 := by rw [h9]; exact nI_neq (by omega)
  unfold rgB
  rw [num_n h9', bd_e, show nI k + 2 = nI (k + 2) from nI_add k 2, gd_t (nI_inb (show k + 2 < 60 by omega) (by decide)), nI_clamp (by omega), wp_ml]
  have hF : Fr (rgS k) M (up M 185 (k + 2) 0) := Fr.rf.up (Or.inr ⟨rfl, by omega, by omega⟩)
  have e : ∀ q, up M 185 (k + 2) 0 174 q = M 174 q := fun q => by rw [up_row _ _ _ (by decide)]
  exact wp_mono (rgC_f hn hk (RC.fg hF hL) ((e 1).trans h1) ((e 18).trans h8) hp ((e 19).trans h9) hf) (fun v M' q => ⟨q.1, hF.tr q.2⟩)
theorem rgA_f {p f : Nat} {M : Mem} (hn : n ≤ 6) (hk : k + 10 ≤ 60) (hL : RC M t L) (h1 : M 174 1 = nI n) (h8 : M 174 18 = nI p) (hp : p ≤ 100) (h9 : M 174 19 = nI f) (hf : f ≤ 100) : wp (rgA (nI k) M) (RgF k f M) := by
  have h9' : ¬ M 174 19 = -1 := by rw [h9]; exact nI_neq (by omega)
  unfold rgA
  rw [let_n h9', bd_e, show nI k + 1 = nI (k + 1) from nI_add k 1, gd_t (nI_inb (show k + 1 < 60 by omega) (by decide)), nI_clamp (by omega), wp_ml]
  have hF : Fr (rgS k) M (up M 185 (k + 1) 0) := Fr.rf.up (Or.inr ⟨rfl, by omega, by omega⟩)
  have e : ∀ q, up M 185 (k + 1) 0 174 q = M 174 q := fun q => by rw [up_row _ _ _ (by decide)]
  exact wp_mono (rgB_f hn hk (RC.fg hF hL) ((e 1).trans h1) ((e 18).trans h8) hp ((e 19).trans h9) hf) (fun v M' q => ⟨q.1, hF.tr q.2⟩)
/-- where a line's fields stand in the reference -/
def FlR (M : Mem) (n k : Nat) (F : Fld) : Prop := M 185 k = nI F.1 ∧ M 185 (k + 1) = nI F.2.1 ∧ M 185 (k + 2) = nI F.2.2.1 ∧ M 185 (k + 3) = b2i (F.2.2.2.1 = true) ∧ ∀ r, r < n → M 185 (k + 4 + r) = nI (F.2.2.2.2 r)
theorem readGroup_ref {p : Nat} {M : Mem} (hn : n ≤ 6) (hk : k + 10 ≤ 60) (hp : p ≤ L) (hL : RC M t L) (h1 : M 174 1 = nI n) (h8 : M 174 18 = nI p) (h9 : M 174 19 = -1) : wp (f_X11_readGroup (nI k) M) (fun _ M' => Fr (rgS k) M M' ∧ match ln (lkp t L) n p with
    | .inl f => M' 174 19 = nI f ∧ f ≤ 100
    | .inr q => M' 174 19 = -1 ∧ M' 174 18 = nI q.2 ∧ q.2 ≤ L ∧ FlR M' n k q.1) := by
  have l80 := hL.le
  rw [rg0, num_x hL h8 h9 hp]
  unfold ln
  have d1 := digs_up (t := t) (L := L) 2 0 p
  by_cases hd : isDg (lkp t L p) = true
  rotate_left
  · rw [if_neg hd, bd_e, gd_t (nI_inb (show k < 60 by omega) (by decide)), nI_clamp (by omega), wp_ml]
    simp only [Bool.eq_false_iff.mpr hd, if_true]
    have hF : Fr (rgS k) M (up (up M 174 19 (nI p)) 185 k 0) := (Fr.rf.up (Or.inl ⟨rfl, by omega⟩)).up (Or.inr ⟨rfl, by omega, by omega⟩)
    exact wp_mono (rgA_f (p := p) (f := p) hn hk (RC.fg hF hL) (by rw [up_row _ _ _ (by decide), up_col _ _ _ (by decide)]; exact h1) (by rw [up_row _ _ _ (by decide), up_col _ _ _ (by decide)]; exact h8) (by omega) (by rw [up_row _ _ _ (by decide), up_self]) (by omega)) (fun v M' q => ⟨hF.tr q.2, q.1, by omega⟩)
  rw [if_pos hd, bd_e, gd_t (nI_inb (show k < 60 by omega) (by decide)), nI_clamp (by omega), wp_ml]
  simp only [hd, Bool.true_eq_false, if_false]
  generalize hc : (digs (lkp t L) 2 0 p).1 = c at *
  generalize hp1 : (digs (lkp t L) 2 0 p).2 = p1 at *
  have dp1 : p1 ≤ L := d1.2 hp
  have hF1 : Fr (rgS k) M (up (up M 174 18 (nI p1)) 185 k (nI c)) := (Fr.rf.up (Or.inl ⟨rfl, by omega⟩)).up (Or.inr ⟨rfl, by omega, by omega⟩)
  have a1 : up (up M 174 18 (nI p1)) 185 k (nI c) 174 1 = nI n := by rw [up_row _ _ _ (by decide), up_col _ _ _ (by decide)]; exact h1
  have a8 : up (up M 174 18 (nI p1)) 185 k (nI c) 174 18 = nI p1 := by rw [up_row _ _ _ (by decide), up_self]
  have a9 : up (up M 174 18 (nI p1)) 185 k (nI c) 174 19 = -1 := by rw [up_row _ _ _ (by decide), up_col _ _ _ (by decide)]; exact h9
  have a5 : up (up M 174 18 (nI p1)) 185 k (nI c) 185 k = nI c := up_self _ _ _ _
  generalize hM1 : up (up M 174 18 (nI p1)) 185 k (nI c) = M1 at *
  have L1 := RC.fg hF1 hL
  unfold rgA
  rw [show f_X11_letter 118 5 M1 = _ from let_x (c := 118) (m := 5) L1 a8 a9 (by omega) (by decide) (by decide)]
  by_cases hl : 118 ≤ lkp t L p1 ∧ lkp t L p1 ≤ 122
  rotate_left
  · rw [if_neg (show ¬ (118 ≤ lkp t L p1 ∧ lkp t L p1 ≤ 118 + 5 - 1) from hl), bd_e, show nI k + 1 = nI (k + 1) from nI_add k 1, gd_t (nI_inb (show k + 1 < 60 by omega) (by decide)), nI_clamp (by omega), wp_ml]
    simp only [hl, not_false_eq_true, if_true]
    have hF : Fr (rgS k) M1 (up (up M1 174 19 (nI p1)) 185 (k + 1) 0) := (Fr.rf.up (Or.inl ⟨rfl, by omega⟩)).up (Or.inr ⟨rfl, by omega, by omega⟩)
    exact wp_mono (rgB_f (p := p1) (f := p1) hn hk (RC.fg hF L1) (by rw [up_row _ _ _ (by decide), up_col _ _ _ (by decide)]; exact a1) (by rw [up_row _ _ _ (by decide), up_col _ _ _ (by decide)]; exact a8) (by omega) (by rw [up_row _ _ _ (by decide), up_self]) (by omega)) (fun v M' q => ⟨hF1.tr (hF.tr q.2), q.1, by omega⟩)
  rw [if_pos (show 118 ≤ lkp t L p1 ∧ lkp t L p1 ≤ 118 + 5 - 1 from hl), bd_e, show nI k + 1 = nI (k + 1) from nI_add k 1, gd_t (nI_inb (show k + 1 < 60 by omega) (by decide)), nI_clamp (by omega), wp_ml]
  simp only [hl, and_self, not_true_eq_false, if_false]
  have hlt1 : p1 < L := lkp_lo (t := t) (fun e => by omega)
  have hF2 : Fr (rgS k) M (up (up M1 174 18 (nI (p1 + 1))) 185 (k + 1) (nI (lkp t L p1 - 118))) := (hF1.up (Or.inl ⟨rfl, by omega⟩)).up (Or.inr ⟨rfl, by omega, by omega⟩)
  have b1 : up (up M1 174 18 (nI (p1 + 1))) 185 (k + 1) (nI (lkp t L p1 - 118)) 174 1 = nI n := by rw [up_row _ _ _ (by decide), up_col _ _ _ (by decide)]; exact a1
  have b8 : up (up M1 174 18 (nI (p1 + 1))) 185 (k + 1) (nI (lkp t L p1 - 118)) 174 18 = nI (p1 + 1) := by rw [up_row _ _ _ (by decide), up_self]
  have b9 : up (up M1 174 18 (nI (p1 + 1))) 185 (k + 1) (nI (lkp t L p1 - 118)) 174 19 = -1 := by rw [up_row _ _ _ (by decide), up_col _ _ _ (by decide)]; exact a9
  have b5 : up (up M1 174 18 (nI (p1 + 1))) 185 (k + 1) (nI (lkp t L p1 - 118)) 185 k = nI c := by rw [up_col _ _ _ (by omega), up_row _ _ _ (by decide)]; exact a5
  have b6 : up (up M1 174 18 (nI (p1 + 1))) 185 (k + 1) (nI (lkp t L p1 - 118)) 185 (k + 1) = nI (lkp t L p1 - 118) := up_self _ _ _ _
  generalize hM2 : up (up M1 174 18 (nI (p1 + 1))) 185 (k + 1) (nI (lkp t L p1 - 118)) = M2 at *
  have L2 := RC.fg hF2 hL
  have d2 := digs_up (t := t) (L := L) 2 0 (p1 + 1)
  have e99 := digs_99 (lk := lkp t L) (p1 + 1)
  unfold rgB
  rw [num_x L2 b8 b9 (by omega), show nI k + 2 = nI (k + 2) from nI_add k 2]
  by_cases hd2 : isDg (lkp t L (p1 + 1)) = true
  rotate_left
  · rw [if_neg hd2, bd_e, gd_t (nI_inb (show k + 2 < 60 by omega) (by decide)), nI_clamp (by omega), wp_ml]
    simp only [Bool.eq_false_iff.mpr hd2, if_true]
    have hF : Fr (rgS k) M2 (up (up M2 174 19 (nI (p1 + 1))) 185 (k + 2) 0) := (Fr.rf.up (Or.inl ⟨rfl, by omega⟩)).up (Or.inr ⟨rfl, by omega, by omega⟩)
    exact wp_mono (rgC_f (p := p1 + 1) (f := p1 + 1) hn hk (RC.fg hF L2) (by rw [up_row _ _ _ (by decide), up_col _ _ _ (by decide)]; exact b1) (by rw [up_row _ _ _ (by decide), up_col _ _ _ (by decide)]; exact b8) (by omega) (by rw [up_row _ _ _ (by decide), up_self]) (by omega)) (fun v M' q => ⟨hF2.tr (hF.tr q.2), q.1, by omega⟩)
  have gt2 : p1 + 1 < (digs (lkp t L) 2 0 (p1 + 1)).2 := by
    have e : digs (lkp t L) 2 0 (p1 + 1) = digs (lkp t L) 1 (0 * 10 + (lkp t L (p1 + 1) - 48)) (p1 + 1 + 1) := by
      conv => lhs; unfold digs
      rw [if_pos hd2]
    rw [e]
    have := (digs_up (t := t) (L := L) 1 (0 * 10 + (lkp t L (p1 + 1) - 48)) (p1 + 1 + 1)).1
    omega
  rw [if_pos hd2, bd_e, gd_t (nI_inb (show k + 2 < 60 by omega) (by decide)), nI_clamp (by omega), wp_ml]
  simp only [hd2, Bool.true_eq_false, if_false]
  generalize hz : (digs (lkp t L) 2 0 (p1 + 1)).1 = z at *
  generalize hp3 : (digs (lkp t L) 2 0 (p1 + 1)).2 = p3 at *
  have dp3 : p3 ≤ L := d2.2 (by omega)
  have hF3 : Fr (rgS k) M (up (up M2 174 18 (nI p3)) 185 (k + 2) (nI z)) := (hF2.up (Or.inl ⟨rfl, by omega⟩)).up (Or.inr ⟨rfl, by omega, by omega⟩)
  have c1 : up (up M2 174 18 (nI p3)) 185 (k + 2) (nI z) 174 1 = nI n := by rw [up_row _ _ _ (by decide), up_col _ _ _ (by decide)]; exact b1
  have c8 : up (up M2 174 18 (nI p3)) 185 (k + 2) (nI z) 174 18 = nI p3 := by rw [up_row _ _ _ (by decide), up_self]
  have c9 : up (up M2 174 18 (nI p3)) 185 (k + 2) (nI z) 174 19 = -1 := by rw [up_row _ _ _ (by decide), up_col _ _ _ (by decide)]; exact b9
  have c5 : up (up M2 174 18 (nI p3)) 185 (k + 2) (nI z) 185 k = nI c := by rw [up_col _ _ _ (by omega), up_row _ _ _ (by decide)]; exact b5
  have c6 : up (up M2 174 18 (nI p3)) 185 (k + 2) (nI z) 185 (k + 1) = nI (lkp t L p1 - 118) := by rw [up_col _ _ _ (by omega), up_row _ _ _ (by decide)]; exact b6
  have c7 : up (up M2 174 18 (nI p3)) 185 (k + 2) (nI z) 185 (k + 2) = nI z := up_self _ _ _ _
  generalize hM3 : up (up M2 174 18 (nI p3)) 185 (k + 2) (nI z) = M3 at *
  have L3 := RC.fg hF3 hL
  unfold rgC
  rw [fine_t c9, bd_e, if_neg (by decide), show nI k + 2 = nI (k + 2) from nI_add k 2, gd_t (nI_inb (show k + 2 < 60 by omega) (by decide)), nI_clamp (by omega), c7, show f_X11_in (nI z) 1 40 M3 = some (b2i (1 ≤ z ∧ z ≤ 40), M3) from in_sg (lo := 1) (hi := 40) (Or.inl ⟨by omega, rfl⟩) (by decide) (by decide) _, bd_e]
  by_cases hz1 : 1 ≤ z ∧ z ≤ 40
  rotate_left
  · rw [b2i_f hz1, if_pos rfl, fault_t c9, bd_e, c8, nI_sub1 (by omega)]
    simp only [hz1, not_false_eq_true, if_true]
    have hF : Fr (rgS k) M3 (up M3 174 19 (nI (p3 - 1))) := Fr.rf.up (Or.inl ⟨rfl, by omega⟩)
    have e9 : up M3 174 19 (nI (p3 - 1)) 174 19 = nI (p3 - 1) := up_self _ _ _ _
    exact wp_mono (rg73_f (p := p3) hn hk (RC.fg hF L3) (by rw [up_col _ _ _ (by decide)]; exact c8) (by omega) (by rw [up_col _ _ _ (by decide)]; exact c1) (by rw [e9]; exact nI_neq (by omega))) (fun v M' q => ⟨hF3.tr (hF.tr (rgFS q.2)), (q.2 174 19 (by unfold rgF; omega)).trans e9, by omega⟩)
  rw [b2i_t hz1, if_neg (by decide)]
  simp only [hz1, and_self, not_true_eq_false, if_false]
  refine wp_mono (rg73_s hn hk (by omega) L3 c1 c8 c9) (fun v M' q => ⟨hF3.tr q.1, ?_⟩)
  have q2 := q.2
  by_cases hw : lkp t L p3 = 60 ∨ lkp t L p3 = 62
  rotate_left
  · rw [if_neg hw] at q2
    simp only [hw, not_false_eq_true, if_true]
    exact ⟨q2, by omega⟩
  · have hlt3 : p3 < L := lkp_lo (t := t) (fun e => by omega)
    rw [if_pos hw] at q2
    simp only [hw, not_true_eq_false, if_false]
    cases ed : dgs (lkp t L) (p3 + 1) n 0 with
    | some f =>
      rw [ed] at q2
      have := dgs_lt n 0 f ed
      exact ⟨q2, by omega⟩
    | none =>
      rw [ed] at q2
      obtain ⟨w1, w2, w3, w4, w5⟩ := q2
      refine ⟨w1, w2, ?_, (w5 k (by omega)).trans c5, (w5 (k + 1) (by omega)).trans c6, (w5 (k + 2) (by omega)).trans c7, ?_, w3⟩
      · show p3 + 1 + n ≤ L
        by_cases h0 : n = 0
        · omega
        · have := isDg_i.mp (dgs_no n 0 ed (n - 1) (Nat.zero_le _) (by omega))
          have hlt : p3 + 1 + (n - 1) < L := lkp_lo (t := t) (fun e => by omega)
          omega
      · rw [w4]
        show b2i (lkp t L p3 = 60) = b2i (decide (lkp t L p3 = 60) = true)
        by_cases e : lkp t L p3 = 60
        · rw [b2i_t e, b2i_t (by simp [e])]
        · rw [b2i_f e, b2i_f (by simp [e])]
end LinS
