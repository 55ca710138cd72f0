/-! the reference reads texts -/
def sB (t : Nat) : Int32 := (nI t).toInt8.toInt32
theorem sB_and {t : Nat} (h : t < 256) : sB t &&& 255 = nI t := by
  have key : ∀ t, t < 256 → sB t &&& 255 = nI t := by decide +kernel
  exact key t h
theorem sB_lo {t : Nat} (h : t < 128) : sB t = nI t := by
  have key : ∀ t, t < 128 → sB t = nI t := by decide +kernel
  exact key t h
theorem sB_eq {t c : Nat} (h : t < 256) (hc : c < 128) : sB t = nI c ↔ t = c := by
  constructor
  · intro e
    have e2 := sB_and h
    rw [e, ← sB_lo hc, sB_and (by omega), nI_eq (by omega) (by omega)] at e2
    exact e2.symm
  · intro e; subst e; exact sB_lo hc
def rdS : Nat → Nat → Prop := fun i k => i = 174 ∧ (k = 18 ∨ k = 19)
def rd8 : Nat → Nat → Prop := fun i k => i = 174 ∧ k = 18
theorem dR_c (x : Int32) : dR x = 183 ∨ dR x = 186 := by unfold dR; split <;> simp
def RC (M : Mem) (t : Nat → Nat) (L : Nat) : Prop := ¬ M 174 15 = 0 ∧ L ≤ LN (dR (M 174 15)) ∧ (∃ n0 tp, n0 ≤ 80 ∧ tp ≤ 80 ∧ M 174 16 = nI n0 ∧ M 174 17 = nI tp ∧ L = min n0 tp) ∧ ∀ p, p < L → t p < 256 ∧ M (dR (M 174 15)) p = sB (t p)
theorem RC.le {M : Mem} {t : Nat → Nat} {L : Nat} (h : RC M t L) : L ≤ 80 := by
  obtain ⟨-, -, ⟨n0, tp, h1, h2, -, -, h3⟩, -⟩ := h
  omega
theorem RC.fr {M M' : Mem} {t : Nat → Nat} {L : Nat} (h : Fr rdS M M') (hc : RC M t L) : RC M' t L := by
  obtain ⟨h1, h2, ⟨n0, tp, a, b, e1, e2, e3⟩, h3⟩ := hc
  have e : ∀ k, k ≠ 18 → k ≠ 19 → M' 174 k = M 174 k := fun k a b => h 174 k (by unfold rdS; omega)
  have e15 := e 15 (by decide) (by decide)
  refine ⟨by rw [e15]; exact h1, by rw [e15]; exact h2, ⟨n0, tp, a, b, (e 16 (by decide) (by decide)).trans e1, (e 17 (by decide) (by decide)).trans e2, e3⟩, fun p hp => ?_⟩
  rw [e15, h _ p (by unfold rdS; rcases dR_c (M 174 15) with z | z <;> omega)]
  exact h3 p hp
def EvR (M : Mem) (ev : Nat → Int32) : Prop := (M 174 23 = 0 ∧ ∀ c, ev c = 0) ∨ (¬ M 174 23 = 0 ∧ ∀ M', Fr rdS M M' → ∀ c, isLt c = true → f_X11_valueOf (nI c) M' = some (ev c, M'))
theorem EvR.fr {M M' : Mem} {ev : Nat → Int32} (h : Fr rdS M M') (hc : EvR M ev) : EvR M' ev := by
  have e23 : M' 174 23 = M 174 23 := h 174 23 (by unfold rdS; omega)
  rcases hc with ⟨h1, h2⟩ | ⟨h1, h2⟩
  · exact Or.inl ⟨e23.trans h1, h2⟩
  · exact Or.inr ⟨by rw [e23]; exact h1, fun M2 h3 => h2 M2 (h.tr h3)⟩
def RQ (M : Mem) (r : PR) (v : Int32) (M' : Mem) : Prop := Fr rdS M M' ∧ match r with
  | .inl f => f < 2 ^ 30 ∧ M' 174 19 = nI f
  | .inr w => v = w.1 ∧ M' 174 18 = nI w.2 ∧ M' 174 19 = -1
def TR (t : Nat → Nat) (L : Nat) (ev : Nat → Int32) (lo : Nat) (T : Mem → Option (Int32 × Mem)) (F : Nat → PR) : Prop := ∀ M p, RC M t L → EvR M ev → M 174 18 = nI p → M 174 19 = -1 → lo ≤ p → p ≤ L → wp (T M) (RQ M (F p))
def TRf (T : Mem → Option (Int32 × Mem)) : Prop := ∀ M : Mem, ¬ M 174 19 = -1 → wp (T M) (fun _ M' => Fr rd8 M M')
theorem Fr.w8 {M M' : Mem} (h : Fr rd8 M M') : Fr rdS M M' := h.mn (fun i k q => ⟨q.1, Or.inl q.2⟩)
theorem f19 {M M' : Mem} (h : Fr rd8 M M') : M' 174 19 = M 174 19 := h 174 19 (by unfold rd8; omega)
theorem rq_fail {M M1 M' : Mem} {f : Nat} {v : Int32} (hF : Fr rdS M M1) (hf : f < 2 ^ 30) (h6 : M1 174 19 = nI f) (h : Fr rd8 M1 M') : RQ M (.inl f) v M' := ⟨hF.tr h.w8, hf, (f19 h).trans h6⟩
theorem rq_nf {M1 : Mem} {f : Nat} (hf : f < 2 ^ 30) (h6 : M1 174 19 = nI f) : ¬ M1 174 19 = -1 := by rw [h6]; exact nI_neq (by omega)
theorem rq_tr {M M1 M' : Mem} {r : PR} {v : Int32} (hF : Fr rdS M M1) (h : RQ M1 r v M') : RQ M r v M' := ⟨hF.tr h.1, h.2⟩
theorem r18 {M : Mem} {x : Int32} : Fr rdS M (up M 174 18 x) := Fr.rf.up ⟨rfl, Or.inl rfl⟩
theorem r19 {M : Mem} {x : Int32} : Fr rdS M (up M 174 19 x) := Fr.rf.up ⟨rfl, Or.inr rfl⟩
section LawR
variable {M : Mem} {t : Nat → Nat} {L : Nat} {ev : Nat → Int32} {p : Nat}
theorem here_ok (hL : RC M t L) (h8 : M 174 18 = nI p) (hp : p < 2 ^ 30) : ∃ x, f_X11_here M = some (x, M) ∧ Sg x (lkp t L p) := by
  have l80 := hL.le
  obtain ⟨h1, h2, ⟨n0, tp, a, b, e1, e2, e3⟩, h3⟩ := hL
  have h280 : LN (dR (M 174 15)) ≤ 1000 := by rcases dR_c (M 174 15) with z | z <;> rw [z] <;> decide
  unfold f_X11_here f_X11_here_0 f_X11_here_38 f_X11_here_39
  rw [h8, e1, e2]
  by_cases h : p < L
  · refine ⟨nI (t p), ?_, ?_⟩
    · rw [if_pos (nI_lt (by omega) (by omega)), if_pos (nI_lt (by omega) (by omega)), gd_t h1, gd_t (nI_inb (by omega) h280), nI_clamp (by omega), (h3 p h).2, sB_and (h3 p h).1]
      rfl
    · unfold lkp
      rw [if_pos h]
      exact Or.inl ⟨(h3 p h).1, rfl⟩
  · refine ⟨-1, ?_, ?_⟩
    · by_cases hn : p < n0
      · rw [if_pos (nI_lt hn (by omega)), if_neg (nI_nlt (by omega) (by omega))]
      · rw [if_neg (nI_nlt (by omega) (by omega))]
    · unfold lkp
      rw [if_neg h]
      exact Or.inr ⟨rfl, Or.inl rfl⟩
theorem fine_t (h : M 174 19 = -1) : f_X11_fine M = some (1, M) := by
  unfold f_X11_fine f_X11_fine_0 f_X11_fine_13
  rw [if_pos h, gd_t (by decide)]
theorem fine_f (h : ¬ M 174 19 = -1) : f_X11_fine M = some (0, M) := by
  unfold f_X11_fine f_X11_fine_0 f_X11_fine_13
  rw [if_neg h, gd_t (by decide)]
theorem fault_t (h : M 174 19 = -1) (x : Int32) : f_X11_fault x M = some (0, up M 174 19 x) := by
  unfold f_X11_fault f_X11_fault_0
  rw [fine_t h, bd_e, if_neg (by decide)]
  rfl
theorem fault_f (h : ¬ M 174 19 = -1) (x : Int32) : f_X11_fault x M = some (0, M) := by
  unfold f_X11_fault f_X11_fault_0
  rw [fine_f h, bd_e, if_pos rfl]
  rfl
theorem pass_f (h : ¬ M 174 19 = -1) (x : Int32) : f_X11_passes x M = some (0, M) := by
  unfold f_X11_passes f_X11_passes_0
  rw [fine_f h, bd_e, if_pos rfl]
  rfl
theorem pass_ok (hL : RC M t L) (h8 : M 174 18 = nI p) (h9 : M 174 19 = -1) (hp : p < 2 ^ 30) {c : Nat} (hc : c < 256) : f_X11_passes (nI c) M = if lkp t L p = c then some (1, up M 174 18 (nI (p + 1))) else some (0, M) := by
  unfold f_X11_passes f_X11_passes_0 f_X11_passes_15
  obtain ⟨x, ex, hx⟩ := here_ok hL h8 hp
  rw [fine_t h9, bd_e, if_neg (by decide), ex, bd_e]
  by_cases e : lkp t L p = c
  · rw [if_pos ((hx.eq hc).mpr e), if_pos e, h8, nI_1]
    rfl
  · rw [if_neg (fun z => e ((hx.eq hc).mp z)), if_neg e]
/-- a digit lo .. hi -/
def digP (lk : Nat → Nat) (lo hi p : Nat) : PR := if 48 + lo ≤ lk p ∧ lk p ≤ 48 + hi then .inr (nI (lk p - 48), p + 1) else .inl p
theorem in_sg {x : Int32} {n lo hi : Nat} (h : Sg x n) (hlo : lo < 256) (hhi : hi < 256) (M : Mem) : f_X11_in x (nI lo) (nI hi) M = some (b2i (lo ≤ n ∧ n ≤ hi), M) := by
  rw [in_spec]
  have e : (¬ x < nI lo ∧ ¬ nI hi < x) ↔ (lo ≤ n ∧ n ≤ hi) := by
    rcases h with ⟨h1, h2⟩ | ⟨h1, h2 | h2⟩
    · rw [h2, nI_ltI (by omega) (by omega), nI_ltI (by omega) (by omega)]
      omega
    · rw [h2]
      constructor
      · rintro ⟨a, _⟩
        exact absurd (show (-1 : Int32) < nI lo by rw [Int32.lt_iff_toInt_lt, nI_toInt (by omega)]; have : (-1 : Int32).toInt = -1 := by decide
                                                   omega) a
      · intro z; omega
    · rw [h2]
      constructor
      · rintro ⟨a, _⟩
        exact absurd (show (-2 : Int32) < nI lo by rw [Int32.lt_iff_toInt_lt, nI_toInt (by omega)]; have : (-2 : Int32).toInt = -2 := by decide
                                                   omega) a
      · intro z; omega
  unfold b2i
  simp only [e]
theorem digit_ok (hL : RC M t L) (h8 : M 174 18 = nI p) (h9 : M 174 19 = -1) (hp : p < 2 ^ 30) {lo hi : Nat} (hlo : lo ≤ 9) (hhi : hi ≤ 9) : wp (f_X11_digit (nI lo) (nI hi) M) (RQ M (digP (lkp t L) lo hi p)) := by
  have l80 := hL.le
  unfold f_X11_digit f_X11_digit_0 digP
  obtain ⟨x, ex, hx⟩ := here_ok hL h8 hp
  rw [fine_t h9, bd_e, if_neg (by decide), ex, bd_e, show (48 : Int32) + nI lo = nI (48 + lo) from nI_add 48 lo, show (48 : Int32) + nI hi = nI (48 + hi) from nI_add 48 hi, in_sg hx (by omega) (by omega), bd_e]
  by_cases h : 48 + lo ≤ lkp t L p ∧ lkp t L p ≤ 48 + hi
  · rw [b2i_t h, if_neg (by decide), if_pos h, wp_ml]
    have hlt : p < L := lkp_lo (t := t) (fun e => by omega)
    have h280 : LN (dR (M 174 15)) ≤ 1000 := by rcases dR_c (M 174 15) with z | z <;> rw [z] <;> decide
    have e15 : up M 174 18 (M 174 18 + 1) 174 15 = M 174 15 := up_col _ _ _ (by decide)
    have e18 : up M 174 18 (M 174 18 + 1) 174 18 - 1 = nI p := by rw [up_self, h8, nI_1, nI_pred]
    have h2 := hL.2.1
    rw [e15, e18, gd_t hL.1, gd_t (nI_inb (by omega) h280), nI_clamp (by omega), wp_vl, wp_s, up_row _ _ _ (by rcases dR_c (M 174 15) with z | z <;> omega), (hL.2.2.2 p hlt).2]
    have elk : lkp t L p = t p := if_pos hlt
    rw [elk] at h ⊢
    rw [sB_lo (by omega)]
    refine ⟨r18, show nI (t p) - 48 = nI (t p - 48) from pk_sub (b := 48) (by omega), ?_, ?_⟩
    · rw [up_self, h8, nI_1]
    · rw [up_col _ _ _ (by decide)]; exact h9
  · rw [b2i_f h, if_pos rfl, if_neg h, fault_t h9, bd_e, wp_s, h8]
    exact ⟨r19, hp, up_self _ _ _ _⟩
theorem digit_f (a b : Int32) : TRf (f_X11_digit a b) := by
  intro M h
  unfold f_X11_digit f_X11_digit_0
  rw [fine_f h, bd_e, if_pos rfl, wp_s]
  exact Fr.rf
/-- a number of at most D digits -/
def numP (lk : Nat → Nat) (D p : Nat) : PR := if isDg (lk p) = true then .inr (nI (digs lk D 0 p).1, (digs lk D 0 p).2) else .inl p
theorem isDg_i {c : Nat} : isDg c = true ↔ 48 + 0 ≤ c ∧ c ≤ 48 + 9 := by
  unfold isDg
  rw [Bool.and_eq_true, decide_eq_true_iff, decide_eq_true_iff]
theorem num10 {D : Nat} (hD : D ≤ 3) : ∀ (k v k0 n : Nat) (M : Mem) (p : Nat), RC M t L → M 174 18 = nI p → M 174 19 = -1 → p ≤ L → k0 + k = D → k < n → wp (f_X11_number_10 n (nI D) (nI v) (nI k0) M) (RQ M (.inr (nI (digs (lkp t L) k v p).1, (digs (lkp t L) k v p).2)))
  | 0, v, k0, n + 1, M, p, hL, h8, h9, hp, ht, _ => by
    unfold f_X11_number_10 f_X11_number_55 digs
    rw [if_neg (nI_nlt (by omega) (by omega)), wp_s]
    exact ⟨Fr.rf, rfl, h8, h9⟩
  | k + 1, v, k0, n + 1, M, p, hL, h8, h9, hp, ht, hn => by
    have l80 := hL.le
    unfold f_X11_number_10 f_X11_number_55 digs
    obtain ⟨x, ex, hx⟩ := here_ok hL h8 (by omega)
    rw [if_pos (nI_lt (by omega) (by omega)), fine_t h9, bd_e, if_neg (by decide), ex, bd_e, show f_X11_in x 48 57 M = some (b2i (48 ≤ lkp t L p ∧ lkp t L p ≤ 57), M) from in_sg (lo := 48) (hi := 57) hx (by decide) (by decide) M, bd_e]
    by_cases h : isDg (lkp t L p) = true
    · have h2 := isDg_i.mp h
      have hlt : p < L := lkp_lo (t := t) (fun e => by omega)
      rw [b2i_t (by omega), if_neg (by decide), if_pos h, wp_bd]
      refine wp_mono (digit_ok (lo := 0) (hi := 9) hL h8 h9 (by omega) (by decide) (by decide)) (fun r M1 q => ?_)
      unfold digP at q
      rw [if_pos h2] at q
      obtain ⟨q1, q2, q3, q4⟩ := q
      rw [wp_vl, wp_vl, q2, show (10 : Int32) * nI v = nI (10 * v) from pk_mul 10 v, nI_add, nI_1, Nat.mul_comm 10 v]
      exact wp_mono (num10 hD k _ (k0 + 1) n M1 (p + 1) (RC.fr q1 hL) q3 q4 (by omega) (by omega) (by omega)) (fun r M' h => rq_tr q1 h)
    · have h2 : ¬ (48 ≤ lkp t L p ∧ lkp t L p ≤ 57) := fun z => h (isDg_i.mpr ⟨by omega, by omega⟩)
      rw [b2i_f h2, if_pos rfl, if_neg h, wp_s]
      exact ⟨Fr.rf, rfl, h8, h9⟩
theorem num10_f (n : Nat) (x1 v k0 : Int32) : TRf (f_X11_number_10 (n + 1) x1 v k0) := by
  intro M h
  unfold f_X11_number_10 f_X11_number_55
  rw [fine_f h, bd_e, wp_if, if_pos rfl]
  exact ⟨fun _ => wp_s.mpr Fr.rf, fun _ => wp_s.mpr Fr.rf⟩
theorem number_ok {D : Nat} (hD : D ≤ 3) (hD1 : 1 ≤ D) (hL : RC M t L) (h8 : M 174 18 = nI p) (h9 : M 174 19 = -1) (hp : p ≤ L) : wp (f_X11_number (nI D) M) (RQ M (numP (lkp t L) D p)) := by
  have l80 := hL.le
  unfold f_X11_number f_X11_number_0 numP
  rw [wp_bd]
  refine wp_mono (digit_ok (lo := 0) (hi := 9) hL h8 h9 (by omega) (by decide) (by decide)) (fun r M1 q => ?_)
  unfold digP at q
  by_cases h : isDg (lkp t L p) = true
  · have hlt : p < L := lkp_lo (t := t) (fun e => by rw [e] at h; exact absurd h (by decide))
    rw [if_pos (isDg_i.mp h)] at q
    obtain ⟨q1, q2, q3, q4⟩ := q
    rw [if_pos h, q2]
    obtain ⟨D', rfl⟩ : ∃ D', D = D' + 1 := ⟨D - 1, by omega⟩
    have e : digs (lkp t L) (D' + 1) 0 p = digs (lkp t L) D' (lkp t L p - 48) (p + 1) := by
      conv => lhs; unfold digs
      rw [if_pos h]
      simp
    rw [e]
    exact wp_mono (num10 hD D' _ 1 FU M1 (p + 1) (RC.fr q1 hL) q3 q4 (by omega) (by omega) (by show D' < 2000; omega)) (fun r M' h => rq_tr q1 h)
  · rw [if_neg (fun z => h (isDg_i.mpr z))] at q
    obtain ⟨q1, q2, q3⟩ := q
    rw [if_neg h]
    exact wp_mono (num10_f 1999 _ _ _ M1 (rq_nf q2 q3)) (fun r M' h => rq_fail q1 q2 q3 h)
theorem number_f (x1 : Int32) : TRf (f_X11_number x1) := by
  intro M h
  unfold f_X11_number f_X11_number_0
  rw [wp_bd]
  exact wp_mono (digit_f 0 9 M h) (fun r M1 q => wp_mono (num10_f 1999 _ _ _ M1 (by rw [f19 q]; exact h)) (fun r M' z => q.tr z))
/-- a letter of many from first on -/
def letP (lk : Nat → Nat) (first many p : Nat) : PR := if first ≤ lk p ∧ lk p ≤ first + many - 1 then .inr (nI (lk p - first), p + 1) else .inl p
theorem letter_ok (hL : RC M t L) (h8 : M 174 18 = nI p) (h9 : M 174 19 = -1) (hp : p < 2 ^ 30) {c m : Nat} (hm : 1 ≤ m) (hcm : c + m < 128) : wp (f_X11_letter (nI c) (nI m) M) (RQ M (letP (lkp t L) c m p)) := by
  have l80 := hL.le
  unfold f_X11_letter f_X11_letter_0 letP
  obtain ⟨x, ex, hx⟩ := here_ok hL h8 hp
  rw [fine_t h9, bd_e, if_neg (by decide), ex, bd_e, nI_add, nI_sub1 (by omega), in_sg hx (by omega) (by omega), bd_e]
  by_cases h : c ≤ lkp t L p ∧ lkp t L p ≤ c + m - 1
  · rw [b2i_t h, if_neg (by decide), if_pos h, wp_ml]
    have hlt : p < L := lkp_lo (t := t) (fun e => by omega)
    have h280 : LN (dR (M 174 15)) ≤ 1000 := by rcases dR_c (M 174 15) with z | z <;> rw [z] <;> decide
    have e15 : up M 174 18 (M 174 18 + 1) 174 15 = M 174 15 := up_col _ _ _ (by decide)
    have e18 : up M 174 18 (M 174 18 + 1) 174 18 - 1 = nI p := by rw [up_self, h8, nI_1, nI_pred]
    have h2 := hL.2.1
    rw [e15, e18, gd_t hL.1, gd_t (nI_inb (by omega) h280), nI_clamp (by omega), wp_vl, wp_s, up_row _ _ _ (by rcases dR_c (M 174 15) with z | z <;> omega), (hL.2.2.2 p hlt).2]
    have elk : lkp t L p = t p := if_pos hlt
    rw [elk] at h ⊢
    rw [sB_lo (by omega)]
    refine ⟨r18, pk_sub (by omega), ?_, ?_⟩
    · rw [up_self, h8, nI_1]
    · rw [up_col _ _ _ (by decide)]; exact h9
  · rw [b2i_f h, if_pos rfl, if_neg h, fault_t h9, bd_e, wp_s, h8]
    exact ⟨r19, hp, up_self _ _ _ _⟩
theorem letter_f (a b : Int32) : TRf (f_X11_letter a b) := by
  intro M h
  unfold f_X11_letter f_X11_letter_0
  rw [fine_f h, bd_e, if_pos rfl, wp_s]
  exact Fr.rf
end LawR
